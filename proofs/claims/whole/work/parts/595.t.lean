set_option maxRecDepth 100000 in
set_option maxHeartbeats 4000000 in
theorem kT9_clear (l : Launch) (w : wT) (hw : yOk w 4) (σ : Hp)  (K : Hp → Prop) (hv : VT9_clear K σ ) : yMet l w tcf 4 yX9_clear cX9_clear 1 none 1 [.ref (w.1 0)] σ (yQv w tcf 4 K) := by
  unfold VT9_clear at hv
  refine y_start (lv0 := [(0, .ref (w.1 0))]) (by decide +kernel) (own := RX9) rfl hw (Nat.le_of_ble_eq_true rfl) rfl (fun p e s m below meth c A E => ?_)
  refine y_aload_n E dX9_clear_0 0 rfl ?_
  refine y_iconst (v := 0) E dX9_clear_1 (by decide) ?_
  refine pft_X9_3 E (by decide) (by decide) wm_245 dX9_clear_2 ?_
  refine y_nmH (fun u1 hu1 => ?_)
  replace hv := hv u1 hu1
  refine y_aload_n E dX9_clear_5 0 rfl ?_
  refine y_iconst (v := 0) E dX9_clear_6 (by decide) ?_
  refine pft_X9_4 E (by decide) (by decide) wm_246 dX9_clear_7 ?_
  refine y_nmH (fun u2 hu2 => ?_)
  replace hv := hv u2 hu2
  exact y_vret E dX9_clear_10 hv
set_option maxRecDepth 100000 in
set_option maxHeartbeats 4000000 in
theorem kT9_add (l : Launch) (w : wT) (hw : yOk w 4) (σ : Hp) (a1 : Int32) (K : Hp → Prop) (hv : VT9_add K σ a1) : yMet l w tcf 4 yX9_add cX9_add 2 none 1 [.ref (w.1 0), .int a1] σ (yQv w tcf 4 K) := by
  unfold VT9_add at hv
  refine y_start (lv0 := [(0, .ref (w.1 0)), (1, .int a1)]) (by decide +kernel) (own := RX9) rfl hw (Nat.le_of_ble_eq_true rfl) rfl (fun p e s m below meth c A E => ?_)
  refine y_aload_n E dX9_add_0 0 rfl ?_
  refine gft_X9_3 E (by decide) (by decide) wm_245 dX9_add_1 ?_
  refine y_sipush (v := 160) E dX9_add_4 (by decide) ?_
  refine y_icmp_ge (tgt := 30) E dX9_add_7 (by decide) (fun c1 => ?_) (fun c1 => ?_)
  · replace hv := ite_t hv c1
    exact y_vret E dX9_add_30 hv
  · replace hv := ite_f hv c1
    refine y_aload_n E dX9_add_10 0 rfl ?_
    refine gft_X9_0 E (by decide) (by decide) wm_247 dX9_add_11 ?_
    refine y_aload_n E dX9_add_14 0 rfl ?_
    refine gft_X9_3 E (by decide) (by decide) wm_245 dX9_add_15 ?_
    refine y_iload_n E dX9_add_18 1 rfl ?_
    obtain ⟨hi, hv⟩ := hv
    refine y_iast E (Nat.lt_of_lt_of_le (show 1 < 2 by decide) (by decide)) (fun _ => tc_codes (by decide) (by decide)) hi dX9_add_19 ?_
    refine y_nmH (fun u2 hu2 => ?_)
    replace hv := hv u2 hu2
    refine y_aload_n E dX9_add_20 0 rfl ?_
    refine y_dup E dX9_add_21 rfl ?_
    refine gft_X9_3 E (by decide) (by decide) wm_245 dX9_add_22 ?_
    refine y_iconst (v := 1) E dX9_add_25 (by decide) ?_
    refine y_iadd E dX9_add_26 ?_
    refine pft_X9_3 E (by decide) (by decide) wm_245 dX9_add_27 ?_
    refine y_nmH (fun u3 hu3 => ?_)
    replace hv := hv u3 hu3
    exact y_vret E dX9_add_30 hv
set_option maxRecDepth 100000 in
set_option maxHeartbeats 4000000 in
theorem kT9_endPart (l : Launch) (w : wT) (hw : yOk w 4) (σ : Hp)  (K : Hp → Prop) (hv : VT9_endPart K σ ) : yMet l w tcf 4 yX9_endPart cX9_endPart 1 none 1 [.ref (w.1 0)] σ (yQv w tcf 4 K) := by
  unfold VT9_endPart at hv
  refine y_start (lv0 := [(0, .ref (w.1 0))]) (by decide +kernel) (own := RX9) rfl hw (Nat.le_of_ble_eq_true rfl) rfl (fun p e s m below meth c A E => ?_)
  refine y_aload_n E dX9_endPart_0 0 rfl ?_
  refine gft_X9_4 E (by decide) (by decide) wm_246 dX9_endPart_1 ?_
  refine y_iconst (v := 3) E dX9_endPart_4 (by decide) ?_
  refine y_icmp_ge (tgt := 31) E dX9_endPart_5 (by decide) (fun c1 => ?_) (fun c1 => ?_)
  · replace hv := ite_t hv c1
    exact y_vret E dX9_endPart_31 hv
  · replace hv := ite_f hv c1
    refine y_aload_n E dX9_endPart_8 0 rfl ?_
    refine y_dup E dX9_endPart_9 rfl ?_
    refine gft_X9_4 E (by decide) (by decide) wm_246 dX9_endPart_10 ?_
    refine y_iconst (v := 1) E dX9_endPart_13 (by decide) ?_
    refine y_iadd E dX9_endPart_14 ?_
    refine pft_X9_4 E (by decide) (by decide) wm_246 dX9_endPart_15 ?_
    refine y_nmH (fun u2 hu2 => ?_)
    replace hv := hv u2 hu2
    refine y_aload_n E dX9_endPart_18 0 rfl ?_
    refine gft_X9_1 E (by decide) (by decide) wm_248 dX9_endPart_19 ?_
    refine y_aload_n E dX9_endPart_22 0 rfl ?_
    refine gft_X9_4 E (by decide) (by decide) wm_246 dX9_endPart_23 ?_
    refine y_aload_n E dX9_endPart_26 0 rfl ?_
    refine gft_X9_3 E (by decide) (by decide) wm_245 dX9_endPart_27 ?_
    obtain ⟨hi, hv⟩ := hv
    refine y_iast E (Nat.lt_of_lt_of_le (show 2 < 3 by decide) (by decide)) (fun _ => tc_starts (by decide) (by decide)) hi dX9_endPart_30 ?_
    refine y_nmH (fun u3 hu3 => ?_)
    replace hv := hv u3 hu3
    exact y_vret E dX9_endPart_31 hv
set_option maxRecDepth 100000 in
set_option maxHeartbeats 4000000 in
theorem kT9_becomeNumbers (l : Launch) (w : wT) (hw : yOk w 4) (σ : Hp) (a1 : Int32) (a2 : Int32) (a3 : Int32) (K : Hp → Prop) (hv : VT9_becomeNumbers K σ a1 a2 a3) : yMet l w tcf 4 yX9_becomeNumbers cX9_becomeNumbers 4 none 2 [.ref (w.1 0), .int a1, .int a2, .int a3] σ (yQv w tcf 4 K) := by
  unfold VT9_becomeNumbers at hv
  refine y_start (lv0 := [(0, .ref (w.1 0)), (1, .int a1), (2, .int a2), (3, .int a3)]) (by decide +kernel) (own := RX9) rfl hw (Nat.le_of_ble_eq_true rfl) rfl (fun p e s m below meth c A E => ?_)
  refine y_aload_n E dX9_becomeNumbers_0 0 rfl ?_
  refine y_callv E (y_runV E (rest := []) (kT9_clear l w E.2.2.1 σ _ hv) (y_cwV 0 E.1.2.2.2.2 wm_249 wm_165 wm_166 wm_113 wm_167 (by decide +kernel) (yRm_le (by decide) (by decide))) (Nat.lt_of_lt_of_le (show 0 < 1 by decide) (by decide)) (tc_X9 (by decide) (by decide)) rfl rfl rfl (Nat.le_of_ble_eq_true rfl) dX9_becomeNumbers_1) (fun u2 hk => ?_)
  clear hv
  have hv := hk
  clear hk
  refine y_aload_n E dX9_becomeNumbers_4 0 rfl ?_
  refine y_iload_n E dX9_becomeNumbers_5 1 rfl ?_
  refine y_callv E (y_runV E (rest := []) (kT9_add l w E.2.2.1 u2 a1 _ hv) (y_cwV 1 E.1.2.2.2.2 wm_250 wm_182 wm_183 wm_113 wm_184 (by decide +kernel) (yRm_le (by decide) (by decide))) (Nat.lt_of_lt_of_le (show 0 < 1 by decide) (by decide)) (tc_X9 (by decide) (by decide)) rfl rfl rfl (Nat.le_of_ble_eq_true rfl) dX9_becomeNumbers_6) (fun u4 hk => ?_)
  clear hv
  have hv := hk
  clear hk
  refine y_aload_n E dX9_becomeNumbers_9 0 rfl ?_
  refine y_callv E (y_runV E (rest := []) (kT9_endPart l w E.2.2.1 u4 _ hv) (y_cwV 0 E.1.2.2.2.2 wm_251 wm_170 wm_171 wm_113 wm_172 (by decide +kernel) (yRm_le (by decide) (by decide))) (Nat.lt_of_lt_of_le (show 0 < 1 by decide) (by decide)) (tc_X9 (by decide) (by decide)) rfl rfl rfl (Nat.le_of_ble_eq_true rfl) dX9_becomeNumbers_10) (fun u6 hk => ?_)
  clear hv
  have hv := hk
  clear hk
  refine y_aload_n E dX9_becomeNumbers_13 0 rfl ?_
  refine y_iload_n E dX9_becomeNumbers_14 2 rfl ?_
  refine y_callv E (y_runV E (rest := []) (kT9_add l w E.2.2.1 u6 a2 _ hv) (y_cwV 1 E.1.2.2.2.2 wm_250 wm_182 wm_183 wm_113 wm_184 (by decide +kernel) (yRm_le (by decide) (by decide))) (Nat.lt_of_lt_of_le (show 0 < 1 by decide) (by decide)) (tc_X9 (by decide) (by decide)) rfl rfl rfl (Nat.le_of_ble_eq_true rfl) dX9_becomeNumbers_15) (fun u8 hk => ?_)
  clear hv
  have hv := hk
  clear hk
  refine y_aload_n E dX9_becomeNumbers_18 0 rfl ?_
  refine y_callv E (y_runV E (rest := []) (kT9_endPart l w E.2.2.1 u8 _ hv) (y_cwV 0 E.1.2.2.2.2 wm_251 wm_170 wm_171 wm_113 wm_172 (by decide +kernel) (yRm_le (by decide) (by decide))) (Nat.lt_of_lt_of_le (show 0 < 1 by decide) (by decide)) (tc_X9 (by decide) (by decide)) rfl rfl rfl (Nat.le_of_ble_eq_true rfl) dX9_becomeNumbers_19) (fun u10 hk => ?_)
  clear hv
  have hv := hk
  clear hk
  refine y_aload_n E dX9_becomeNumbers_22 0 rfl ?_
  refine y_iload_n E dX9_becomeNumbers_23 3 rfl ?_
  refine y_callv E (y_runV E (rest := []) (kT9_add l w E.2.2.1 u10 a3 _ hv) (y_cwV 1 E.1.2.2.2.2 wm_250 wm_182 wm_183 wm_113 wm_184 (by decide +kernel) (yRm_le (by decide) (by decide))) (Nat.lt_of_lt_of_le (show 0 < 1 by decide) (by decide)) (tc_X9 (by decide) (by decide)) rfl rfl rfl (Nat.le_of_ble_eq_true rfl) dX9_becomeNumbers_24) (fun u12 hk => ?_)
  clear hv
  have hv := hk
  clear hk
  refine y_aload_n E dX9_becomeNumbers_27 0 rfl ?_
  refine y_callv E (y_runV E (rest := []) (kT9_endPart l w E.2.2.1 u12 _ hv) (y_cwV 0 E.1.2.2.2.2 wm_251 wm_170 wm_171 wm_113 wm_172 (by decide +kernel) (yRm_le (by decide) (by decide))) (Nat.lt_of_lt_of_le (show 0 < 1 by decide) (by decide)) (tc_X9 (by decide) (by decide)) rfl rfl rfl (Nat.le_of_ble_eq_true rfl) dX9_becomeNumbers_28) (fun u14 hk => ?_)
  clear hv
  have hv := hk
  clear hk
  exact y_vret E dX9_becomeNumbers_31 hv
