theorem dX4_readPart_0 : decode cX4_readPart 0 = .ok (.aload_n 0, 1) := by decide +kernel
theorem dX4_readPart_1 : decode cX4_readPart 1 = .ok (.iload_n 1, 1) := by decide +kernel
theorem dX4_readPart_2 : decode cX4_readPart 2 = .ok (.invokevirtual 41, 3) := by decide +kernel
theorem dX4_readPart_5 : decode cX4_readPart 5 = .ok (.aload_n 0, 1) := by decide +kernel
theorem dX4_readPart_6 : decode cX4_readPart 6 = .ok (.iconst 0, 1) := by decide +kernel
theorem dX4_readPart_7 : decode cX4_readPart 7 = .ok (.invokevirtual 44, 3) := by decide +kernel
theorem dX4_readPart_10 : decode cX4_readPart 10 = .ok (.aload_n 0, 1) := by decide +kernel
theorem dX4_readPart_11 : decode cX4_readPart 11 = .ok (.getfield 19, 3) := by decide +kernel
theorem dX4_readPart_14 : decode cX4_readPart 14 = .ok (.invokevirtual 47, 3) := by decide +kernel
theorem dX4_readPart_17 : decode cX4_readPart 17 = .ok (.aload_n 0, 1) := by decide +kernel
theorem dX4_readPart_18 : decode cX4_readPart 18 = .ok (.bipush (-22), 2) := by decide +kernel
theorem dX4_readPart_20 : decode cX4_readPart 20 = .ok (.invokevirtual 41, 3) := by decide +kernel
theorem dX4_readPart_23 : decode cX4_readPart 23 = .ok (.return_, 1) := by decide +kernel
set_option maxRecDepth 100000 in
set_option maxHeartbeats 4000000 in
theorem kX4_readPart (l : Launch) (w : wT) (hw : yOk w 55) (σ : Hp) (a1 : Int32) (K : Hp → Prop) (hv : VX4_readPart K σ a1) : yMet l w xcf 55 yX4_readPart cX4_readPart 2 none 74 [.ref (w.1 38), .int a1] σ (yQv w xcf 55 K) := by
  unfold VX4_readPart at hv
  refine y_start (lv0 := [(0, .ref (w.1 38)), (1, .int a1)]) (by decide +kernel) (own := RX4) rfl hw (Nat.le_of_ble_eq_true rfl) rfl (fun p e s m below meth c A E => ?_)
  refine y_aload_n E dX4_readPart_0 0 rfl ?_
  refine y_iload_n E dX4_readPart_1 1 rfl ?_
  refine y_callv E (y_runV E (rest := []) (kX4_take l w E.2.2.1 σ a1 _ hv) (y_cwV 1 E.1.2.2.2.2 wm_154 wm_155 wm_156 wm_157 wm_158 (by decide +kernel) (yRm_le (by decide) (by decide))) (Nat.lt_of_lt_of_le (show 38 < 39 by decide) (by decide)) (xc_X4 (by decide) (by decide)) rfl rfl rfl (Nat.le_of_ble_eq_true rfl) dX4_readPart_2) (fun u2 hk => ?_)
  clear hv
  have hv := hk
  clear hk
  refine y_aload_n E dX4_readPart_5 0 rfl ?_
  refine y_iconst (v := 0) E dX4_readPart_6 (by decide) ?_
  refine y_callv E (y_runV E (rest := []) ((kREC l w E.2.2.1 64).1 _ _ 0 hv) (y_cwV 1 E.1.2.2.2.2 wm_168 wm_173 wm_174 wm_157 wm_175 (by decide +kernel) (yRm_le (by decide) (by decide))) (Nat.lt_of_lt_of_le (show 38 < 39 by decide) (by decide)) (xc_X4 (by decide) (by decide)) rfl rfl rfl (Nat.le_of_ble_eq_true rfl) dX4_readPart_7) (fun u4 hk => ?_)
  clear hv
  have hv := hk
  clear hk
  refine y_aload_n E dX4_readPart_10 0 rfl ?_
  obtain ⟨hnn, hv⟩ := hv
  refine gf_X4_6 E (by decide) (by decide) hnn wm_148 dX4_readPart_11 ?_
  refine y_nmr (fun x5 hx5 => ?_)
  obtain ⟨hgx5, hv⟩ := hv x5 hx5
  refine y_callv E (y_runV E (rest := []) (kX9_endPart l w E.2.2.1 u4 x5 _ hv) (y_cwV 0 E.1.2.2.2.2 wm_169 wm_170 wm_171 wm_113 wm_172 (by decide +kernel) (yRm_le (by decide) (by decide))) (Nat.lt_of_lt_of_le hgx5.2 (by decide)) (xc_X9 hgx5.1 hgx5.2) rfl rfl rfl (Nat.le_of_ble_eq_true rfl) dX4_readPart_14) (fun u7 hk => ?_)
  clear hv
  have hv := hk
  clear hk
  refine y_aload_n E dX4_readPart_17 0 rfl ?_
  refine y_bipush (v := (-22)) E dX4_readPart_18 (by decide) ?_
  refine y_callv E (y_runV E (rest := []) (kX4_take l w E.2.2.1 u7 (-22) _ hv) (y_cwV 1 E.1.2.2.2.2 wm_154 wm_155 wm_156 wm_157 wm_158 (by decide +kernel) (yRm_le (by decide) (by decide))) (Nat.lt_of_lt_of_le (show 38 < 39 by decide) (by decide)) (xc_X4 (by decide) (by decide)) rfl rfl rfl (Nat.le_of_ble_eq_true rfl) dX4_readPart_20) (fun u9 hk => ?_)
  clear hv
  have hv := hk
  clear hk
  exact y_vret E dX4_readPart_23 hv
theorem dX9_clear_0 : decode cX9_clear 0 = .ok (.aload_n 0, 1) := by decide +kernel
theorem dX9_clear_1 : decode cX9_clear 1 = .ok (.iconst 0, 1) := by decide +kernel
theorem dX9_clear_2 : decode cX9_clear 2 = .ok (.putfield 21, 3) := by decide +kernel
theorem dX9_clear_5 : decode cX9_clear 5 = .ok (.aload_n 0, 1) := by decide +kernel
theorem dX9_clear_6 : decode cX9_clear 6 = .ok (.iconst 0, 1) := by decide +kernel
theorem dX9_clear_7 : decode cX9_clear 7 = .ok (.putfield 25, 3) := by decide +kernel
theorem dX9_clear_10 : decode cX9_clear 10 = .ok (.return_, 1) := by decide +kernel
set_option maxRecDepth 100000 in
set_option maxHeartbeats 4000000 in
theorem kX9_clear (l : Launch) (w : wT) (hw : yOk w 55) (σ : Hp) (o : Nat) (K : Hp → Prop) (hv : VX9_clear K σ o) : yMet l w xcf 55 yX9_clear cX9_clear 1 none 1 [.ref (w.1 o)] σ (yQv w xcf 55 K) := by
  unfold VX9_clear at hv
  refine y_start (lv0 := [(0, .ref (w.1 o))]) (by decide +kernel) (own := RX9) rfl hw (Nat.le_of_ble_eq_true rfl) rfl (fun p e s m below meth c A E => ?_)
  obtain ⟨hgo, hv⟩ := hv
  refine y_aload_n E dX9_clear_0 0 rfl ?_
  refine y_iconst (v := 0) E dX9_clear_1 (by decide) ?_
  refine pf_X9_3 E hgo.1 hgo.2 wm_245 dX9_clear_2 ?_
  refine y_nmH (fun u1 hu1 => ?_)
  replace hv := hv u1 hu1
  refine y_aload_n E dX9_clear_5 0 rfl ?_
  refine y_iconst (v := 0) E dX9_clear_6 (by decide) ?_
  refine pf_X9_4 E hgo.1 hgo.2 wm_246 dX9_clear_7 ?_
  refine y_nmH (fun u2 hu2 => ?_)
  replace hv := hv u2 hu2
  exact y_vret E dX9_clear_10 hv
theorem dX4_read_0 : decode cX4_read 0 = .ok (.aload_n 0, 1) := by decide +kernel
theorem dX4_read_1 : decode cX4_read 1 = .ok (.aload_n 1, 1) := by decide +kernel
theorem dX4_read_2 : decode cX4_read 2 = .ok (.putfield 19, 3) := by decide +kernel
theorem dX4_read_5 : decode cX4_read 5 = .ok (.aload_n 0, 1) := by decide +kernel
theorem dX4_read_6 : decode cX4_read 6 = .ok (.getfield 19, 3) := by decide +kernel
theorem dX4_read_9 : decode cX4_read 9 = .ok (.ifnonnull 5, 3) := by decide +kernel
theorem dX4_read_14 : decode cX4_read 14 = .ok (.aload_n 0, 1) := by decide +kernel
theorem dX4_read_15 : decode cX4_read 15 = .ok (.getfield 19, 3) := by decide +kernel
theorem dX4_read_18 : decode cX4_read 18 = .ok (.invokevirtual 23, 3) := by decide +kernel
theorem dX4_read_21 : decode cX4_read 21 = .ok (.aload_n 0, 1) := by decide +kernel
theorem dX4_read_22 : decode cX4_read 22 = .ok (.iconst (-1), 1) := by decide +kernel
theorem dX4_read_23 : decode cX4_read 23 = .ok (.putfield 28, 3) := by decide +kernel
theorem dX4_read_26 : decode cX4_read 26 = .ok (.aload_n 0, 1) := by decide +kernel
theorem dX4_read_27 : decode cX4_read 27 = .ok (.iconst 0, 1) := by decide +kernel
theorem dX4_read_28 : decode cX4_read 28 = .ok (.putfield 31, 3) := by decide +kernel
theorem dX4_read_31 : decode cX4_read 31 = .ok (.aload_n 0, 1) := by decide +kernel
theorem dX4_read_32 : decode cX4_read 32 = .ok (.invokevirtual 34, 3) := by decide +kernel
theorem dX4_read_35 : decode cX4_read 35 = .ok (.aload_n 0, 1) := by decide +kernel
theorem dX4_read_36 : decode cX4_read 36 = .ok (.bipush (-23), 2) := by decide +kernel
theorem dX4_read_38 : decode cX4_read 38 = .ok (.invokevirtual 37, 3) := by decide +kernel
theorem dX4_read_41 : decode cX4_read 41 = .ok (.aload_n 0, 1) := by decide +kernel
theorem dX4_read_42 : decode cX4_read 42 = .ok (.bipush (-24), 2) := by decide +kernel
theorem dX4_read_44 : decode cX4_read 44 = .ok (.invokevirtual 37, 3) := by decide +kernel
theorem dX4_read_47 : decode cX4_read 47 = .ok (.aload_n 0, 1) := by decide +kernel
theorem dX4_read_48 : decode cX4_read 48 = .ok (.bipush (-25), 2) := by decide +kernel
theorem dX4_read_50 : decode cX4_read 50 = .ok (.invokevirtual 37, 3) := by decide +kernel
theorem dX4_read_53 : decode cX4_read 53 = .ok (.aload_n 0, 1) := by decide +kernel
theorem dX4_read_54 : decode cX4_read 54 = .ok (.bipush (-30), 2) := by decide +kernel
theorem dX4_read_56 : decode cX4_read 56 = .ok (.invokevirtual 41, 3) := by decide +kernel
theorem dX4_read_59 : decode cX4_read 59 = .ok (.aload_n 0, 1) := by decide +kernel
theorem dX4_read_60 : decode cX4_read 60 = .ok (.getfield 28, 3) := by decide +kernel
theorem dX4_read_63 : decode cX4_read 63 = .ok (.ireturn, 1) := by decide +kernel
set_option maxRecDepth 100000 in
set_option maxHeartbeats 4000000 in
theorem kX4_read (l : Launch) (w : wT) (hw : yOk w 55) (σ : Hp) (a1 : Nat) (K : Int32 → Hp → Prop) (hv : VX4_read K σ a1) : yMet l w xcf 55 yX4_read cX4_read 2 (some .int) 75 [.ref (w.1 38), .ref (w.1 a1)] σ (yQi w xcf 55 K) := by
  unfold VX4_read at hv
  refine y_start (lv0 := [(0, .ref (w.1 38)), (1, .ref (w.1 a1))]) (by decide +kernel) (own := RX4) rfl hw (Nat.le_of_ble_eq_true rfl) rfl (fun p e s m below meth c A E => ?_)
  obtain ⟨hga1, hv⟩ := hv
  refine y_aload_n E dX4_read_0 0 rfl ?_
  refine y_aload_n E dX4_read_1 1 rfl ?_
  refine pf_X4_6 E (by decide) (by decide) (Nat.lt_of_lt_of_le hga1.2 (by decide)) wm_148 dX4_read_2 ?_
  refine y_nmH (fun u1 hu1 => ?_)
  replace hv := hv u1 hu1
  refine y_aload_n E dX4_read_5 0 rfl ?_
  obtain ⟨hnn, hv⟩ := hv
  refine gf_X4_6 E (by decide) (by decide) hnn wm_148 dX4_read_6 ?_
  refine y_nmr (fun x2 hx2 => ?_)
  obtain ⟨hgx2, hv⟩ := hv x2 hx2
  refine y_ifnonnull (tgt := 14) E dX4_read_9 (by decide) ?_
  refine y_aload_n E dX4_read_14 0 rfl ?_
  obtain ⟨hnn, hv⟩ := hv
  refine gf_X4_6 E (by decide) (by decide) hnn wm_148 dX4_read_15 ?_
  refine y_nmr (fun x3 hx3 => ?_)
  obtain ⟨hgx3, hv⟩ := hv x3 hx3
  refine y_callv E (y_runV E (rest := []) (kX9_clear l w E.2.2.1 u1 x3 _ hv) (y_cwV 0 E.1.2.2.2.2 wm_149 wm_165 wm_166 wm_113 wm_167 (by decide +kernel) (yRm_le (by decide) (by decide))) (Nat.lt_of_lt_of_le hgx3.2 (by decide)) (xc_X9 hgx3.1 hgx3.2) rfl rfl rfl (Nat.le_of_ble_eq_true rfl) dX4_read_18) (fun u5 hk => ?_)
  clear hv
  have hv := hk
  clear hk
  refine y_aload_n E dX4_read_21 0 rfl ?_
  refine y_iconst (v := (-1)) E dX4_read_22 (by decide) ?_
  refine pf_X4_5 E (by decide) (by decide) wm_150 dX4_read_23 ?_
  refine y_nmH (fun u6 hu6 => ?_)
  replace hv := hv u6 hu6
  refine y_aload_n E dX4_read_26 0 rfl ?_
  refine y_iconst (v := 0) E dX4_read_27 (by decide) ?_
  refine pf_X4_4 E (by decide) (by decide) wm_151 dX4_read_28 ?_
  refine y_nmH (fun u7 hu7 => ?_)
  replace hv := hv u7 hu7
  refine y_aload_n E dX4_read_31 0 rfl ?_
  refine y_callv E (y_runV E (rest := []) (kX4_goOn l w E.2.2.1 u7 _ hv) (y_cwV 0 E.1.2.2.2.2 wm_152 wm_162 wm_163 wm_157 wm_164 (by decide +kernel) (yRm_le (by decide) (by decide))) (Nat.lt_of_lt_of_le (show 38 < 39 by decide) (by decide)) (xc_X4 (by decide) (by decide)) rfl rfl rfl (Nat.le_of_ble_eq_true rfl) dX4_read_32) (fun u9 hk => ?_)
  clear hv
  have hv := hk
  clear hk
  refine y_aload_n E dX4_read_35 0 rfl ?_
  refine y_bipush (v := (-23)) E dX4_read_36 (by decide) ?_
  refine y_callv E (y_runV E (rest := []) (kX4_readPart l w E.2.2.1 u9 (-23) _ hv) (y_cwV 1 E.1.2.2.2.2 wm_153 wm_159 wm_160 wm_157 wm_161 (by decide +kernel) (yRm_le (by decide) (by decide))) (Nat.lt_of_lt_of_le (show 38 < 39 by decide) (by decide)) (xc_X4 (by decide) (by decide)) rfl rfl rfl (Nat.le_of_ble_eq_true rfl) dX4_read_38) (fun u11 hk => ?_)
  clear hv
  have hv := hk
  clear hk
  refine y_aload_n E dX4_read_41 0 rfl ?_
  refine y_bipush (v := (-24)) E dX4_read_42 (by decide) ?_
  refine y_callv E (y_runV E (rest := []) (kX4_readPart l w E.2.2.1 u11 (-24) _ hv) (y_cwV 1 E.1.2.2.2.2 wm_153 wm_159 wm_160 wm_157 wm_161 (by decide +kernel) (yRm_le (by decide) (by decide))) (Nat.lt_of_lt_of_le (show 38 < 39 by decide) (by decide)) (xc_X4 (by decide) (by decide)) rfl rfl rfl (Nat.le_of_ble_eq_true rfl) dX4_read_44) (fun u13 hk => ?_)
  clear hv
  have hv := hk
  clear hk
  refine y_aload_n E dX4_read_47 0 rfl ?_
  refine y_bipush (v := (-25)) E dX4_read_48 (by decide) ?_
  refine y_callv E (y_runV E (rest := []) (kX4_readPart l w E.2.2.1 u13 (-25) _ hv) (y_cwV 1 E.1.2.2.2.2 wm_153 wm_159 wm_160 wm_157 wm_161 (by decide +kernel) (yRm_le (by decide) (by decide))) (Nat.lt_of_lt_of_le (show 38 < 39 by decide) (by decide)) (xc_X4 (by decide) (by decide)) rfl rfl rfl (Nat.le_of_ble_eq_true rfl) dX4_read_50) (fun u15 hk => ?_)
  clear hv
  have hv := hk
  clear hk
  refine y_aload_n E dX4_read_53 0 rfl ?_
  refine y_bipush (v := (-30)) E dX4_read_54 (by decide) ?_
  refine y_callv E (y_runV E (rest := []) (kX4_take l w E.2.2.1 u15 (-30) _ hv) (y_cwV 1 E.1.2.2.2.2 wm_154 wm_155 wm_156 wm_157 wm_158 (by decide +kernel) (yRm_le (by decide) (by decide))) (Nat.lt_of_lt_of_le (show 38 < 39 by decide) (by decide)) (xc_X4 (by decide) (by decide)) rfl rfl rfl (Nat.le_of_ble_eq_true rfl) dX4_read_56) (fun u17 hk => ?_)
  clear hv
  have hv := hk
  clear hk
  refine y_aload_n E dX4_read_59 0 rfl ?_
  refine gf_X4_5 E (by decide) (by decide) wm_150 dX4_read_60 ?_
  exact y_iret E dX4_read_63 hv
theorem dX6_become_0 : decode cX6_become 0 = .ok (.aload_n 0, 1) := by decide +kernel
theorem dX6_become_1 : decode cX6_become 1 = .ok (.iload_n 1, 1) := by decide +kernel
theorem dX6_become_2 : decode cX6_become 2 = .ok (.putfield 15, 3) := by decide +kernel
theorem dX6_become_5 : decode cX6_become 5 = .ok (.aload_n 0, 1) := by decide +kernel
theorem dX6_become_6 : decode cX6_become 6 = .ok (.iload_n 2, 1) := by decide +kernel
theorem dX6_become_7 : decode cX6_become 7 = .ok (.putfield 19, 3) := by decide +kernel
theorem dX6_become_10 : decode cX6_become 10 = .ok (.iconst 0, 1) := by decide +kernel
theorem dX6_become_11 : decode cX6_become 11 = .ok (.istore_n 3, 1) := by decide +kernel
theorem dX6_become_12 : decode cX6_become 12 = .ok (.iload_n 3, 1) := by decide +kernel
theorem dX6_become_13 : decode cX6_become 13 = .ok (.bipush 40, 2) := by decide +kernel
theorem dX6_become_15 : decode cX6_become 15 = .ok (.if_icmp .ge 16, 3) := by decide +kernel
theorem dX6_become_18 : decode cX6_become 18 = .ok (.aload_n 0, 1) := by decide +kernel
theorem dX6_become_19 : decode cX6_become 19 = .ok (.getfield 9, 3) := by decide +kernel
theorem dX6_become_22 : decode cX6_become 22 = .ok (.iload_n 3, 1) := by decide +kernel
theorem dX6_become_23 : decode cX6_become 23 = .ok (.iconst 0, 1) := by decide +kernel
theorem dX6_become_24 : decode cX6_become 24 = .ok (.iastore, 1) := by decide +kernel
theorem dX6_become_25 : decode cX6_become 25 = .ok (.iinc 3 1, 3) := by decide +kernel
theorem dX6_become_28 : decode cX6_become 28 = .ok (.goto (-16), 3) := by decide +kernel
theorem dX6_become_31 : decode cX6_become 31 = .ok (.return_, 1) := by decide +kernel
set_option maxRecDepth 100000 in
set_option maxHeartbeats 4000000 in
theorem kX6_become (l : Launch) (w : wT) (hw : yOk w 55) (σ : Hp) (o : Nat) (a1 : Int32) (a2 : Int32) (K : Hp → Prop) (hv : VX6_become K σ o a1 a2) : yMet l w xcf 55 yX6_become cX6_become 4 none 1 [.ref (w.1 o), .int a1, .int a2] σ (yQv w xcf 55 K) := by
  unfold VX6_become at hv
  refine y_start (lv0 := [(0, .ref (w.1 o)), (1, .int a1), (2, .int a2)]) (by decide +kernel) (own := RX6) rfl hw (Nat.le_of_ble_eq_true rfl) rfl (fun p e s m below meth c A E => ?_)
  obtain ⟨hgo, hv⟩ := hv
  have hL12 : ∀ (n12 : Nat) (σ : Hp) (l3 : Int32), VX6_become_L12 K o n12 σ l3 → YY p l e (yRm 1) s m [.ref (w.1 o), .int a1, .int a2].toArray below meth c w xcf 55 A (MQ below (yQv w xcf 55 K A) [.ref (w.1 o), .int a1, .int a2].toArray s 0 0 A) 4 σ 12 [(0, .ref (w.1 o)), (3, .int l3)] [] := by
    intro n12
    induction n12 with
    | zero => exact fun _ _ hv => (by unfold VX6_become_L12 at hv; exact hv.elim)
    | succ n12 ih12 =>
      intro σ l3 hv
      unfold VX6_become_L12 at hv
      refine y_iload_n E dX6_become_12 1 rfl ?_
      refine y_bipush (v := 40) E dX6_become_13 (by decide) ?_
      refine y_icmp_ge (tgt := 31) E dX6_become_15 (by decide) (fun c3 => ?_) (fun c3 => ?_)
      · replace hv := ite_t hv c3
        exact y_vret E dX6_become_31 hv
      · replace hv := ite_f hv c3
        refine y_aload_n E dX6_become_18 0 rfl ?_
        obtain ⟨x4, hx4⟩ : ∃ z : Nat, z = 45 + 1 * (o - 41) := ⟨_, rfl⟩
        replace hv := hv x4 hx4
        have hgx4 : 45 ≤ x4 ∧ x4 < 49 := by omega
        refine gf_X6_0 (q := x4) E hgo.1 hgo.2 hx4.symm wm_232 dX6_become_19 ?_
        refine y_iload_n E dX6_become_22 1 rfl ?_
        refine y_iconst (v := 0) E dX6_become_23 (by decide) ?_
        obtain ⟨hi, hv⟩ := hv
        refine y_iast E (Nat.lt_of_lt_of_le hgx4.2 (by decide)) (fun _ => xc_numbers hgx4.1 hgx4.2) hi dX6_become_24 ?_
        refine y_nmH (fun u5 hu5 => ?_)
        replace hv := hv u5 hu5
        obtain ⟨x6, hx6⟩ : ∃ z : Int32, z = l3 + 1 := ⟨_, rfl⟩
        replace hv := hv x6 hx6
        refine y_iinc (v := x6) (lv' := [(3, .int x6), (0, .ref (w.1 o))]) E dX6_become_25 1 rfl (by rw [hx6]; rfl) (by decide) rfl ?_
        refine y_goto (tgt := 12) E dX6_become_28 (by decide) ?_
        refine y_lv (lv' := [(0, .ref (w.1 o)), (3, .int x6)]) [1, 0] rfl ?_
        exact ih12 u5 x6 hv
  refine y_aload_n E dX6_become_0 0 rfl ?_
  refine y_iload_n E dX6_become_1 1 rfl ?_
  refine pf_X6_1 E hgo.1 hgo.2 wm_230 dX6_become_2 ?_
  refine y_nmH (fun u1 hu1 => ?_)
  replace hv := hv u1 hu1
  refine y_aload_n E dX6_become_5 0 rfl ?_
  refine y_iload_n E dX6_become_6 2 rfl ?_
  refine pf_X6_2 E hgo.1 hgo.2 wm_231 dX6_become_7 ?_
  refine y_nmH (fun u2 hu2 => ?_)
  replace hv := hv u2 hu2
  refine y_iconst (v := 0) E dX6_become_10 (by decide) ?_
  refine y_istore_n (lv' := [(3, .int 0), (0, .ref (w.1 o)), (1, .int a1), (2, .int a2)]) E dX6_become_11 (by decide) rfl ?_
  refine y_lv (lv' := [(0, .ref (w.1 o)), (3, .int 0)]) [1, 0] rfl ?_
  obtain ⟨n0, hv⟩ := hv
  exact hL12 n0 u2 0 hv
theorem dX6_holds_0 : decode cX6_holds 0 = .ok (.iload_n 1, 1) := by decide +kernel
theorem dX6_holds_1 : decode cX6_holds 1 = .ok (.ifCond .lt 29, 3) := by decide +kernel
theorem dX6_holds_4 : decode cX6_holds 4 = .ok (.iload_n 2, 1) := by decide +kernel
theorem dX6_holds_5 : decode cX6_holds 5 = .ok (.ifCond .lt 25, 3) := by decide +kernel
theorem dX6_holds_8 : decode cX6_holds 8 = .ok (.iload_n 1, 1) := by decide +kernel
theorem dX6_holds_9 : decode cX6_holds 9 = .ok (.aload_n 0, 1) := by decide +kernel
theorem dX6_holds_10 : decode cX6_holds 10 = .ok (.getfield 19, 3) := by decide +kernel
theorem dX6_holds_13 : decode cX6_holds 13 = .ok (.if_icmp .gt 17, 3) := by decide +kernel
theorem dX6_holds_16 : decode cX6_holds 16 = .ok (.iload_n 2, 1) := by decide +kernel
theorem dX6_holds_17 : decode cX6_holds 17 = .ok (.aload_n 0, 1) := by decide +kernel
theorem dX6_holds_18 : decode cX6_holds 18 = .ok (.getfield 19, 3) := by decide +kernel
theorem dX6_holds_21 : decode cX6_holds 21 = .ok (.iload_n 1, 1) := by decide +kernel
theorem dX6_holds_22 : decode cX6_holds 22 = .ok (.isub, 1) := by decide +kernel
theorem dX6_holds_23 : decode cX6_holds 23 = .ok (.if_icmp .gt 7, 3) := by decide +kernel
theorem dX6_holds_26 : decode cX6_holds 26 = .ok (.iconst 1, 1) := by decide +kernel
theorem dX6_holds_27 : decode cX6_holds 27 = .ok (.goto 4, 3) := by decide +kernel
theorem dX6_holds_30 : decode cX6_holds 30 = .ok (.iconst 0, 1) := by decide +kernel
theorem dX6_holds_31 : decode cX6_holds 31 = .ok (.ireturn, 1) := by decide +kernel
set_option maxRecDepth 100000 in
set_option maxHeartbeats 4000000 in
theorem kX6_holds (l : Launch) (w : wT) (hw : yOk w 55) (σ : Hp) (o : Nat) (a1 : Int32) (a2 : Int32) (K : Int32 → Hp → Prop) (hv : VX6_holds K σ o a1 a2) : yMet l w xcf 55 yX6_holds cX6_holds 3 (some .boolean) 1 [.ref (w.1 o), .int a1, .int a2] σ (yQi w xcf 55 K) := by
  unfold VX6_holds at hv
  refine y_start (lv0 := [(0, .ref (w.1 o)), (1, .int a1), (2, .int a2)]) (by decide +kernel) (own := RX6) rfl hw (Nat.le_of_ble_eq_true rfl) rfl (fun p e s m below meth c A E => ?_)
  obtain ⟨hgo, hv⟩ := hv
  refine y_iload_n E dX6_holds_0 1 rfl ?_
  refine y_if_lt (tgt := 30) E dX6_holds_1 (by decide) (fun c1 => ?_) (fun c1 => ?_)
  · replace hv := ite_t hv c1
    refine y_iconst (v := 0) E dX6_holds_30 (by decide) ?_
    exact y_nret E dX6_holds_31 (by decide) hv
  · replace hv := ite_f hv c1
    refine y_iload_n E dX6_holds_4 2 rfl ?_
    refine y_if_lt (tgt := 30) E dX6_holds_5 (by decide) (fun c2 => ?_) (fun c2 => ?_)
    · replace hv := ite_t hv c2
      refine y_iconst (v := 0) E dX6_holds_30 (by decide) ?_
      exact y_nret E dX6_holds_31 (by decide) hv
    · replace hv := ite_f hv c2
      refine y_iload_n E dX6_holds_8 1 rfl ?_
      refine y_aload_n E dX6_holds_9 0 rfl ?_
      refine gf_X6_2 E hgo.1 hgo.2 wm_231 dX6_holds_10 ?_
      refine y_icmp_gt (tgt := 30) E dX6_holds_13 (by decide) (fun c3 => ?_) (fun c3 => ?_)
      · replace hv := ite_t hv c3
        refine y_iconst (v := 0) E dX6_holds_30 (by decide) ?_
        exact y_nret E dX6_holds_31 (by decide) hv
      · replace hv := ite_f hv c3
        refine y_iload_n E dX6_holds_16 2 rfl ?_
        refine y_aload_n E dX6_holds_17 0 rfl ?_
        refine gf_X6_2 E hgo.1 hgo.2 wm_231 dX6_holds_18 ?_
        refine y_iload_n E dX6_holds_21 1 rfl ?_
        refine y_isub E dX6_holds_22 ?_
        refine y_icmp_gt (tgt := 30) E dX6_holds_23 (by decide) (fun c4 => ?_) (fun c4 => ?_)
        · replace hv := ite_t hv c4
          refine y_iconst (v := 0) E dX6_holds_30 (by decide) ?_
          exact y_nret E dX6_holds_31 (by decide) hv
        · replace hv := ite_f hv c4
          refine y_iconst (v := 1) E dX6_holds_26 (by decide) ?_
          refine y_goto (tgt := 31) E dX6_holds_27 (by decide) ?_
          exact y_nret E dX6_holds_31 (by decide) hv
theorem dX6_write_0 : decode cX6_write 0 = .ok (.aload_n 0, 1) := by decide +kernel
theorem dX6_write_1 : decode cX6_write 1 = .ok (.getfield 9, 3) := by decide +kernel
theorem dX6_write_4 : decode cX6_write 4 = .ok (.iload_n 1, 1) := by decide +kernel
theorem dX6_write_5 : decode cX6_write 5 = .ok (.aload_n 0, 1) := by decide +kernel
theorem dX6_write_6 : decode cX6_write 6 = .ok (.getfield 15, 3) := by decide +kernel
theorem dX6_write_9 : decode cX6_write 9 = .ok (.ifCond .ne 8, 3) := by decide +kernel
theorem dX6_write_12 : decode cX6_write 12 = .ok (.iload_n 2, 1) := by decide +kernel
theorem dX6_write_13 : decode cX6_write 13 = .ok (.i2b, 1) := by decide +kernel
theorem dX6_write_14 : decode cX6_write 14 = .ok (.goto 17, 3) := by decide +kernel
theorem dX6_write_17 : decode cX6_write 17 = .ok (.aload_n 0, 1) := by decide +kernel
theorem dX6_write_18 : decode cX6_write 18 = .ok (.getfield 15, 3) := by decide +kernel
theorem dX6_write_21 : decode cX6_write 21 = .ok (.iconst 1, 1) := by decide +kernel
theorem dX6_write_22 : decode cX6_write 22 = .ok (.if_icmp .ne 8, 3) := by decide +kernel
theorem dX6_write_25 : decode cX6_write 25 = .ok (.iload_n 2, 1) := by decide +kernel
theorem dX6_write_26 : decode cX6_write 26 = .ok (.i2s, 1) := by decide +kernel
theorem dX6_write_27 : decode cX6_write 27 = .ok (.goto 4, 3) := by decide +kernel
theorem dX6_write_30 : decode cX6_write 30 = .ok (.iload_n 2, 1) := by decide +kernel
theorem dX6_write_31 : decode cX6_write 31 = .ok (.iastore, 1) := by decide +kernel
theorem dX6_write_32 : decode cX6_write 32 = .ok (.return_, 1) := by decide +kernel
set_option maxRecDepth 100000 in
set_option maxHeartbeats 4000000 in
theorem kX6_write (l : Launch) (w : wT) (hw : yOk w 55) (σ : Hp) (o : Nat) (a1 : Int32) (a2 : Int32) (K : Hp → Prop) (hv : VX6_write K σ o a1 a2) : yMet l w xcf 55 yX6_write cX6_write 3 none 1 [.ref (w.1 o), .int a1, .int a2] σ (yQv w xcf 55 K) := by
  unfold VX6_write at hv
  refine y_start (lv0 := [(0, .ref (w.1 o)), (1, .int a1), (2, .int a2)]) (by decide +kernel) (own := RX6) rfl hw (Nat.le_of_ble_eq_true rfl) rfl (fun p e s m below meth c A E => ?_)
  obtain ⟨hgo, hv⟩ := hv
  refine y_aload_n E dX6_write_0 0 rfl ?_
  obtain ⟨x1, hx1⟩ : ∃ z : Nat, z = 45 + 1 * (o - 41) := ⟨_, rfl⟩
  replace hv := hv x1 hx1
  have hgx1 : 45 ≤ x1 ∧ x1 < 49 := by omega
  refine gf_X6_0 (q := x1) E hgo.1 hgo.2 hx1.symm wm_232 dX6_write_1 ?_
  refine y_iload_n E dX6_write_4 1 rfl ?_
  refine y_aload_n E dX6_write_5 0 rfl ?_
  refine gf_X6_1 E hgo.1 hgo.2 wm_230 dX6_write_6 ?_
  refine y_if_ne (tgt := 17) E dX6_write_9 (by decide) (fun c2 => ?_) (fun c2 => ?_)
  · replace hv := ite_f hv c2
    refine y_aload_n E dX6_write_17 0 rfl ?_
    refine gf_X6_1 E hgo.1 hgo.2 wm_230 dX6_write_18 ?_
    refine y_iconst (v := 1) E dX6_write_21 (by decide) ?_
    refine y_icmp_ne (tgt := 30) E dX6_write_22 (by decide) (fun c3 => ?_) (fun c3 => ?_)
    · replace hv := ite_f hv c3
      refine y_iload_n E dX6_write_30 2 rfl ?_
      obtain ⟨hi, hv⟩ := hv
      refine y_iast E (Nat.lt_of_lt_of_le hgx1.2 (by decide)) (fun _ => xc_numbers hgx1.1 hgx1.2) hi dX6_write_31 ?_
      refine y_nmH (fun u4 hu4 => ?_)
      replace hv := hv u4 hu4
      exact y_vret E dX6_write_32 hv
    · replace hv := ite_t hv c3
      refine y_iload_n E dX6_write_25 2 rfl ?_
      refine y_i2s E dX6_write_26 ?_
      refine y_goto (tgt := 31) E dX6_write_27 (by decide) ?_
      obtain ⟨hi, hv⟩ := hv
      refine y_iast E (Nat.lt_of_lt_of_le hgx1.2 (by decide)) (fun _ => xc_numbers hgx1.1 hgx1.2) hi dX6_write_31 ?_
      refine y_nmH (fun u5 hu5 => ?_)
      replace hv := hv u5 hu5
      exact y_vret E dX6_write_32 hv
  · replace hv := ite_t hv c2
    refine y_iload_n E dX6_write_12 2 rfl ?_
    refine y_i2b E dX6_write_13 ?_
    refine y_goto (tgt := 31) E dX6_write_14 (by decide) ?_
    obtain ⟨hi, hv⟩ := hv
    refine y_iast E (Nat.lt_of_lt_of_le hgx1.2 (by decide)) (fun _ => xc_numbers hgx1.1 hgx1.2) hi dX6_write_31 ?_
    refine y_nmH (fun u6 hu6 => ?_)
    replace hv := hv u6 hu6
    exact y_vret E dX6_write_32 hv
theorem dX9_becomeNumbers_0 : decode cX9_becomeNumbers 0 = .ok (.aload_n 0, 1) := by decide +kernel
theorem dX9_becomeNumbers_1 : decode cX9_becomeNumbers 1 = .ok (.invokevirtual 28, 3) := by decide +kernel
theorem dX9_becomeNumbers_4 : decode cX9_becomeNumbers 4 = .ok (.aload_n 0, 1) := by decide +kernel
theorem dX9_becomeNumbers_5 : decode cX9_becomeNumbers 5 = .ok (.iload_n 1, 1) := by decide +kernel
theorem dX9_becomeNumbers_6 : decode cX9_becomeNumbers 6 = .ok (.invokevirtual 31, 3) := by decide +kernel
theorem dX9_becomeNumbers_9 : decode cX9_becomeNumbers 9 = .ok (.aload_n 0, 1) := by decide +kernel
theorem dX9_becomeNumbers_10 : decode cX9_becomeNumbers 10 = .ok (.invokevirtual 35, 3) := by decide +kernel
theorem dX9_becomeNumbers_13 : decode cX9_becomeNumbers 13 = .ok (.aload_n 0, 1) := by decide +kernel
theorem dX9_becomeNumbers_14 : decode cX9_becomeNumbers 14 = .ok (.iload_n 2, 1) := by decide +kernel
theorem dX9_becomeNumbers_15 : decode cX9_becomeNumbers 15 = .ok (.invokevirtual 31, 3) := by decide +kernel
theorem dX9_becomeNumbers_18 : decode cX9_becomeNumbers 18 = .ok (.aload_n 0, 1) := by decide +kernel
theorem dX9_becomeNumbers_19 : decode cX9_becomeNumbers 19 = .ok (.invokevirtual 35, 3) := by decide +kernel
theorem dX9_becomeNumbers_22 : decode cX9_becomeNumbers 22 = .ok (.aload_n 0, 1) := by decide +kernel
theorem dX9_becomeNumbers_23 : decode cX9_becomeNumbers 23 = .ok (.iload_n 3, 1) := by decide +kernel
theorem dX9_becomeNumbers_24 : decode cX9_becomeNumbers 24 = .ok (.invokevirtual 31, 3) := by decide +kernel
theorem dX9_becomeNumbers_27 : decode cX9_becomeNumbers 27 = .ok (.aload_n 0, 1) := by decide +kernel
theorem dX9_becomeNumbers_28 : decode cX9_becomeNumbers 28 = .ok (.invokevirtual 35, 3) := by decide +kernel
theorem dX9_becomeNumbers_31 : decode cX9_becomeNumbers 31 = .ok (.return_, 1) := by decide +kernel
set_option maxRecDepth 100000 in
set_option maxHeartbeats 4000000 in
theorem kX9_becomeNumbers (l : Launch) (w : wT) (hw : yOk w 55) (σ : Hp) (o : Nat) (a1 : Int32) (a2 : Int32) (a3 : Int32) (K : Hp → Prop) (hv : VX9_becomeNumbers K σ o a1 a2 a3) : yMet l w xcf 55 yX9_becomeNumbers cX9_becomeNumbers 4 none 2 [.ref (w.1 o), .int a1, .int a2, .int a3] σ (yQv w xcf 55 K) := by
  unfold VX9_becomeNumbers at hv
  refine y_start (lv0 := [(0, .ref (w.1 o)), (1, .int a1), (2, .int a2), (3, .int a3)]) (by decide +kernel) (own := RX9) rfl hw (Nat.le_of_ble_eq_true rfl) rfl (fun p e s m below meth c A E => ?_)
  obtain ⟨hgo, hv⟩ := hv
  refine y_aload_n E dX9_becomeNumbers_0 0 rfl ?_
  refine y_callv E (y_runV E (rest := []) (kX9_clear l w E.2.2.1 σ o _ hv) (y_cwV 0 E.1.2.2.2.2 wm_249 wm_165 wm_166 wm_113 wm_167 (by decide +kernel) (yRm_le (by decide) (by decide))) (Nat.lt_of_lt_of_le hgo.2 (by decide)) (xc_X9 hgo.1 hgo.2) rfl rfl rfl (Nat.le_of_ble_eq_true rfl) dX9_becomeNumbers_1) (fun u2 hk => ?_)
  clear hv
  have hv := hk
  clear hk
  refine y_aload_n E dX9_becomeNumbers_4 0 rfl ?_
  refine y_iload_n E dX9_becomeNumbers_5 1 rfl ?_
  refine y_callv E (y_runV E (rest := []) (kX9_add l w E.2.2.1 u2 o a1 _ hv) (y_cwV 1 E.1.2.2.2.2 wm_250 wm_182 wm_183 wm_113 wm_184 (by decide +kernel) (yRm_le (by decide) (by decide))) (Nat.lt_of_lt_of_le hgo.2 (by decide)) (xc_X9 hgo.1 hgo.2) rfl rfl rfl (Nat.le_of_ble_eq_true rfl) dX9_becomeNumbers_6) (fun u4 hk => ?_)
  clear hv
  have hv := hk
  clear hk
  refine y_aload_n E dX9_becomeNumbers_9 0 rfl ?_
  refine y_callv E (y_runV E (rest := []) (kX9_endPart l w E.2.2.1 u4 o _ hv) (y_cwV 0 E.1.2.2.2.2 wm_251 wm_170 wm_171 wm_113 wm_172 (by decide +kernel) (yRm_le (by decide) (by decide))) (Nat.lt_of_lt_of_le hgo.2 (by decide)) (xc_X9 hgo.1 hgo.2) rfl rfl rfl (Nat.le_of_ble_eq_true rfl) dX9_becomeNumbers_10) (fun u6 hk => ?_)
  clear hv
  have hv := hk
  clear hk
  refine y_aload_n E dX9_becomeNumbers_13 0 rfl ?_
  refine y_iload_n E dX9_becomeNumbers_14 2 rfl ?_
  refine y_callv E (y_runV E (rest := []) (kX9_add l w E.2.2.1 u6 o a2 _ hv) (y_cwV 1 E.1.2.2.2.2 wm_250 wm_182 wm_183 wm_113 wm_184 (by decide +kernel) (yRm_le (by decide) (by decide))) (Nat.lt_of_lt_of_le hgo.2 (by decide)) (xc_X9 hgo.1 hgo.2) rfl rfl rfl (Nat.le_of_ble_eq_true rfl) dX9_becomeNumbers_15) (fun u8 hk => ?_)
  clear hv
  have hv := hk
  clear hk
  refine y_aload_n E dX9_becomeNumbers_18 0 rfl ?_
  refine y_callv E (y_runV E (rest := []) (kX9_endPart l w E.2.2.1 u8 o _ hv) (y_cwV 0 E.1.2.2.2.2 wm_251 wm_170 wm_171 wm_113 wm_172 (by decide +kernel) (yRm_le (by decide) (by decide))) (Nat.lt_of_lt_of_le hgo.2 (by decide)) (xc_X9 hgo.1 hgo.2) rfl rfl rfl (Nat.le_of_ble_eq_true rfl) dX9_becomeNumbers_19) (fun u10 hk => ?_)
  clear hv
  have hv := hk
  clear hk
  refine y_aload_n E dX9_becomeNumbers_22 0 rfl ?_
  refine y_iload_n E dX9_becomeNumbers_23 3 rfl ?_
  refine y_callv E (y_runV E (rest := []) (kX9_add l w E.2.2.1 u10 o a3 _ hv) (y_cwV 1 E.1.2.2.2.2 wm_250 wm_182 wm_183 wm_113 wm_184 (by decide +kernel) (yRm_le (by decide) (by decide))) (Nat.lt_of_lt_of_le hgo.2 (by decide)) (xc_X9 hgo.1 hgo.2) rfl rfl rfl (Nat.le_of_ble_eq_true rfl) dX9_becomeNumbers_24) (fun u12 hk => ?_)
  clear hv
  have hv := hk
  clear hk
  refine y_aload_n E dX9_becomeNumbers_27 0 rfl ?_
  refine y_callv E (y_runV E (rest := []) (kX9_endPart l w E.2.2.1 u12 o _ hv) (y_cwV 0 E.1.2.2.2.2 wm_251 wm_170 wm_171 wm_113 wm_172 (by decide +kernel) (yRm_le (by decide) (by decide))) (Nat.lt_of_lt_of_le hgo.2 (by decide)) (xc_X9 hgo.1 hgo.2) rfl rfl rfl (Nat.le_of_ble_eq_true rfl) dX9_becomeNumbers_28) (fun u14 hk => ?_)
  clear hv
  have hv := hk
  clear hk
  exact y_vret E dX9_becomeNumbers_31 hv
theorem dX11_isAnyThingIn_0 : decode cX11_isAnyThingIn 0 = .ok (.iconst 0, 1) := by decide +kernel
theorem dX11_isAnyThingIn_1 : decode cX11_isAnyThingIn 1 = .ok (.istore_n 2, 1) := by decide +kernel
theorem dX11_isAnyThingIn_2 : decode cX11_isAnyThingIn 2 = .ok (.iload_n 2, 1) := by decide +kernel
theorem dX11_isAnyThingIn_3 : decode cX11_isAnyThingIn 3 = .ok (.aload_n 0, 1) := by decide +kernel
theorem dX11_isAnyThingIn_4 : decode cX11_isAnyThingIn 4 = .ok (.getfield 12, 3) := by decide +kernel
theorem dX11_isAnyThingIn_7 : decode cX11_isAnyThingIn 7 = .ok (.getfield 122, 3) := by decide +kernel
theorem dX11_isAnyThingIn_10 : decode cX11_isAnyThingIn 10 = .ok (.if_icmp .ge 24, 3) := by decide +kernel
theorem dX11_isAnyThingIn_13 : decode cX11_isAnyThingIn 13 = .ok (.aload_n 0, 1) := by decide +kernel
theorem dX11_isAnyThingIn_14 : decode cX11_isAnyThingIn 14 = .ok (.getfield 12, 3) := by decide +kernel
theorem dX11_isAnyThingIn_17 : decode cX11_isAnyThingIn 17 = .ok (.getfield 169, 3) := by decide +kernel
theorem dX11_isAnyThingIn_20 : decode cX11_isAnyThingIn 20 = .ok (.iload_n 2, 1) := by decide +kernel
theorem dX11_isAnyThingIn_21 : decode cX11_isAnyThingIn 21 = .ok (.iaload, 1) := by decide +kernel
theorem dX11_isAnyThingIn_22 : decode cX11_isAnyThingIn 22 = .ok (.iload_n 1, 1) := by decide +kernel
theorem dX11_isAnyThingIn_23 : decode cX11_isAnyThingIn 23 = .ok (.if_icmp .ne 5, 3) := by decide +kernel
theorem dX11_isAnyThingIn_26 : decode cX11_isAnyThingIn 26 = .ok (.iconst 1, 1) := by decide +kernel
theorem dX11_isAnyThingIn_27 : decode cX11_isAnyThingIn 27 = .ok (.ireturn, 1) := by decide +kernel
theorem dX11_isAnyThingIn_28 : decode cX11_isAnyThingIn 28 = .ok (.iinc 2 1, 3) := by decide +kernel
theorem dX11_isAnyThingIn_31 : decode cX11_isAnyThingIn 31 = .ok (.goto (-29), 3) := by decide +kernel
theorem dX11_isAnyThingIn_34 : decode cX11_isAnyThingIn 34 = .ok (.iconst 0, 1) := by decide +kernel
theorem dX11_isAnyThingIn_35 : decode cX11_isAnyThingIn 35 = .ok (.ireturn, 1) := by decide +kernel
set_option maxRecDepth 100000 in
set_option maxHeartbeats 4000000 in
theorem kX11_isAnyThingIn (l : Launch) (w : wT) (hw : yOk w 55) (σ : Hp) (a1 : Int32) (K : Int32 → Hp → Prop) (hv : VX11_isAnyThingIn K σ a1) : yMet l w xcf 55 yX11_isAnyThingIn cX11_isAnyThingIn 3 (some .boolean) 1 [.ref (w.1 0), .int a1] σ (yQi w xcf 55 K) := by
  unfold VX11_isAnyThingIn at hv
  refine y_start (lv0 := [(0, .ref (w.1 0)), (1, .int a1)]) (by decide +kernel) (own := RX11) rfl hw (Nat.le_of_ble_eq_true rfl) rfl (fun p e s m below meth c A E => ?_)
  have hL2 : ∀ (n2 : Nat) (σ : Hp) (l1 : Int32) (l2 : Int32), VX11_isAnyThingIn_L2 K n2 σ l1 l2 → YY p l e (yRm 1) s m [.ref (w.1 0), .int a1].toArray below meth c w xcf 55 A (MQ below (yQi w xcf 55 K A) [.ref (w.1 0), .int a1].toArray s 0 0 A) 3 σ 2 [(0, .ref (w.1 0)), (1, .int l1), (2, .int l2)] [] := by
    intro n2
    induction n2 with
    | zero => exact fun _ _ _ hv => (by unfold VX11_isAnyThingIn_L2 at hv; exact hv.elim)
    | succ n2 ih2 =>
      intro σ l1 l2 hv
      unfold VX11_isAnyThingIn_L2 at hv
      refine y_iload_n E dX11_isAnyThingIn_2 2 rfl ?_
      refine y_aload_n E dX11_isAnyThingIn_3 0 rfl ?_
      refine gf_X11_0 E (by decide) (by decide) wm_272 dX11_isAnyThingIn_4 ?_
      refine gf_X3_5 E (by decide) (by decide) wm_286 dX11_isAnyThingIn_7 ?_
      refine y_icmp_ge (tgt := 34) E dX11_isAnyThingIn_10 (by decide) (fun c1 => ?_) (fun c1 => ?_)
      · replace hv := ite_t hv c1
        refine y_iconst (v := 0) E dX11_isAnyThingIn_34 (by decide) ?_
        exact y_nret E dX11_isAnyThingIn_35 (by decide) hv
      · replace hv := ite_f hv c1
        refine y_aload_n E dX11_isAnyThingIn_13 0 rfl ?_
        refine gf_X11_0 E (by decide) (by decide) wm_272 dX11_isAnyThingIn_14 ?_
        refine gf_X3_8 (q := 5) E (by decide) (by decide) rfl wm_315 dX11_isAnyThingIn_17 ?_
        refine y_iload_n E dX11_isAnyThingIn_20 2 rfl ?_
        obtain ⟨hi, hv⟩ := hv
        refine y_iald E (Nat.lt_of_lt_of_le (show 5 < 11 by decide) (by decide)) (xc_harr (by decide) (by decide)) hi dX11_isAnyThingIn_21 ?_
        refine y_iload_n E dX11_isAnyThingIn_22 1 rfl ?_
        refine y_icmp_ne (tgt := 28) E dX11_isAnyThingIn_23 (by decide) (fun c2 => ?_) (fun c2 => ?_)
        · replace hv := ite_f hv c2
          obtain ⟨x3, hx3⟩ : ∃ z : Int32, z = l2 + 1 := ⟨_, rfl⟩
          replace hv := hv x3 hx3
          refine y_iinc (v := x3) (lv' := [(2, .int x3), (0, .ref (w.1 0)), (1, .int l1)]) E dX11_isAnyThingIn_28 2 rfl (by rw [hx3]; rfl) (by decide) rfl ?_
          refine y_goto (tgt := 2) E dX11_isAnyThingIn_31 (by decide) ?_
          refine y_lv (lv' := [(0, .ref (w.1 0)), (1, .int l1), (2, .int x3)]) [1, 2, 0] rfl ?_
          exact ih2 σ l1 x3 hv
        · replace hv := ite_t hv c2
          refine y_iconst (v := 1) E dX11_isAnyThingIn_26 (by decide) ?_
          exact y_nret E dX11_isAnyThingIn_27 (by decide) hv
  refine y_iconst (v := 0) E dX11_isAnyThingIn_0 (by decide) ?_
  refine y_istore_n (lv' := [(2, .int 0), (0, .ref (w.1 0)), (1, .int a1)]) E dX11_isAnyThingIn_1 (by decide) rfl ?_
  refine y_lv (lv' := [(0, .ref (w.1 0)), (1, .int a1), (2, .int 0)]) [1, 2, 0] rfl ?_
  obtain ⟨n0, hv⟩ := hv
  exact hL2 n0 σ a1 0 hv
theorem dX11_isCell_0 : decode cX11_isCell 0 = .ok (.iload_n 0, 1) := by decide +kernel
theorem dX11_isCell_1 : decode cX11_isCell 1 = .ok (.ifCond .lt 13, 3) := by decide +kernel
theorem dX11_isCell_4 : decode cX11_isCell 4 = .ok (.iload_n 0, 1) := by decide +kernel
theorem dX11_isCell_5 : decode cX11_isCell 5 = .ok (.bipush 30, 2) := by decide +kernel
theorem dX11_isCell_7 : decode cX11_isCell 7 = .ok (.if_icmp .ge 7, 3) := by decide +kernel
theorem dX11_isCell_10 : decode cX11_isCell 10 = .ok (.iconst 1, 1) := by decide +kernel
theorem dX11_isCell_11 : decode cX11_isCell 11 = .ok (.goto 4, 3) := by decide +kernel
theorem dX11_isCell_14 : decode cX11_isCell 14 = .ok (.iconst 0, 1) := by decide +kernel
theorem dX11_isCell_15 : decode cX11_isCell 15 = .ok (.ireturn, 1) := by decide +kernel
set_option maxRecDepth 100000 in
set_option maxHeartbeats 4000000 in
theorem kX11_isCell (l : Launch) (w : wT) (hw : yOk w 55) (σ : Hp) (a1 : Int32) (K : Int32 → Hp → Prop) (hv : VX11_isCell K σ a1) : yMet l w xcf 55 yX11_isCell cX11_isCell 1 (some .boolean) 1 [.int a1] σ (yQi w xcf 55 K) := by
  unfold VX11_isCell at hv
  refine y_start (lv0 := [(0, .int a1)]) (by decide +kernel) (own := RX11) rfl hw (Nat.le_of_ble_eq_true rfl) rfl (fun p e s m below meth c A E => ?_)
  refine y_iload_n E dX11_isCell_0 0 rfl ?_
  refine y_if_lt (tgt := 14) E dX11_isCell_1 (by decide) (fun c1 => ?_) (fun c1 => ?_)
  · replace hv := ite_t hv c1
    refine y_iconst (v := 0) E dX11_isCell_14 (by decide) ?_
    exact y_nret E dX11_isCell_15 (by decide) hv
  · replace hv := ite_f hv c1
    refine y_iload_n E dX11_isCell_4 0 rfl ?_
    refine y_bipush (v := 30) E dX11_isCell_5 (by decide) ?_
    refine y_icmp_ge (tgt := 14) E dX11_isCell_7 (by decide) (fun c2 => ?_) (fun c2 => ?_)
    · replace hv := ite_t hv c2
      refine y_iconst (v := 0) E dX11_isCell_14 (by decide) ?_
      exact y_nret E dX11_isCell_15 (by decide) hv
    · replace hv := ite_f hv c2
      refine y_iconst (v := 1) E dX11_isCell_10 (by decide) ?_
      refine y_goto (tgt := 15) E dX11_isCell_11 (by decide) ?_
      exact y_nret E dX11_isCell_15 (by decide) hv
theorem dX11_house_0 : decode cX11_house 0 = .ok (.iload_n 1, 1) := by decide +kernel
theorem dX11_house_1 : decode cX11_house 1 = .ok (.ifCond .lt 8, 3) := by decide +kernel
theorem dX11_house_4 : decode cX11_house 4 = .ok (.iload_n 1, 1) := by decide +kernel
theorem dX11_house_5 : decode cX11_house 5 = .ok (.iconst 2, 1) := by decide +kernel
theorem dX11_house_6 : decode cX11_house 6 = .ok (.if_icmp .le 5, 3) := by decide +kernel
theorem dX11_house_9 : decode cX11_house 9 = .ok (.iconst (-1), 1) := by decide +kernel
theorem dX11_house_10 : decode cX11_house 10 = .ok (.ireturn, 1) := by decide +kernel
theorem dX11_house_11 : decode cX11_house 11 = .ok (.iload_n 2, 1) := by decide +kernel
theorem dX11_house_12 : decode cX11_house 12 = .ok (.invokestatic 97, 3) := by decide +kernel
theorem dX11_house_15 : decode cX11_house 15 = .ok (.ifCond .eq 12, 3) := by decide +kernel
theorem dX11_house_18 : decode cX11_house 18 = .ok (.iload_n 3, 1) := by decide +kernel
theorem dX11_house_19 : decode cX11_house 19 = .ok (.ifCond .lt 8, 3) := by decide +kernel
theorem dX11_house_22 : decode cX11_house 22 = .ok (.iload_n 3, 1) := by decide +kernel
theorem dX11_house_23 : decode cX11_house 23 = .ok (.iconst 1, 1) := by decide +kernel
theorem dX11_house_24 : decode cX11_house 24 = .ok (.if_icmp .le 6, 3) := by decide +kernel
theorem dX11_house_27 : decode cX11_house 27 = .ok (.bipush (-2), 2) := by decide +kernel
theorem dX11_house_29 : decode cX11_house 29 = .ok (.ireturn, 1) := by decide +kernel
theorem dX11_house_30 : decode cX11_house 30 = .ok (.iload_n 1, 1) := by decide +kernel
theorem dX11_house_31 : decode cX11_house 31 = .ok (.ifCond .ne 19, 3) := by decide +kernel
theorem dX11_house_34 : decode cX11_house 34 = .ok (.iload_n 3, 1) := by decide +kernel
theorem dX11_house_35 : decode cX11_house 35 = .ok (.iconst 1, 1) := by decide +kernel
theorem dX11_house_36 : decode cX11_house 36 = .ok (.if_icmp .ne 14, 3) := by decide +kernel
theorem dX11_house_39 : decode cX11_house 39 = .ok (.aload_n 0, 1) := by decide +kernel
theorem dX11_house_40 : decode cX11_house 40 = .ok (.iload_n 2, 1) := by decide +kernel
theorem dX11_house_41 : decode cX11_house 41 = .ok (.invokevirtual 101, 3) := by decide +kernel
theorem dX11_house_44 : decode cX11_house 44 = .ok (.ifCond .eq 6, 3) := by decide +kernel
theorem dX11_house_47 : decode cX11_house 47 = .ok (.bipush (-3), 2) := by decide +kernel
theorem dX11_house_49 : decode cX11_house 49 = .ok (.ireturn, 1) := by decide +kernel
theorem dX11_house_50 : decode cX11_house 50 = .ok (.aload_n 0, 1) := by decide +kernel
theorem dX11_house_51 : decode cX11_house 51 = .ok (.getfield 12, 3) := by decide +kernel
theorem dX11_house_54 : decode cX11_house 54 = .ok (.iload_n 1, 1) := by decide +kernel
theorem dX11_house_55 : decode cX11_house 55 = .ok (.invokevirtual 104, 3) := by decide +kernel
theorem dX11_house_58 : decode cX11_house 58 = .ok (.iload_n 2, 1) := by decide +kernel
theorem dX11_house_59 : decode cX11_house 59 = .ok (.invokestatic 108, 3) := by decide +kernel
theorem dX11_house_62 : decode cX11_house 62 = .ok (.ifCond .eq 7, 3) := by decide +kernel
theorem dX11_house_65 : decode cX11_house 65 = .ok (.iconst 1, 1) := by decide +kernel
theorem dX11_house_66 : decode cX11_house 66 = .ok (.goto 4, 3) := by decide +kernel
theorem dX11_house_69 : decode cX11_house 69 = .ok (.iconst 0, 1) := by decide +kernel
theorem dX11_house_70 : decode cX11_house 70 = .ok (.istore 4, 2) := by decide +kernel
theorem dX11_house_72 : decode cX11_house 72 = .ok (.iload 4, 2) := by decide +kernel
theorem dX11_house_74 : decode cX11_house 74 = .ok (.iload_n 3, 1) := by decide +kernel
theorem dX11_house_75 : decode cX11_house 75 = .ok (.if_icmp .eq 12, 3) := by decide +kernel
theorem dX11_house_78 : decode cX11_house 78 = .ok (.aload_n 0, 1) := by decide +kernel
theorem dX11_house_79 : decode cX11_house 79 = .ok (.getfield 12, 3) := by decide +kernel
theorem dX11_house_82 : decode cX11_house 82 = .ok (.iload_n 1, 1) := by decide +kernel
theorem dX11_house_83 : decode cX11_house 83 = .ok (.iload_n 2, 1) := by decide +kernel
theorem dX11_house_84 : decode cX11_house 84 = .ok (.invokevirtual 112, 3) := by decide +kernel
theorem dX11_house_87 : decode cX11_house 87 = .ok (.iload 4, 2) := by decide +kernel
theorem dX11_house_89 : decode cX11_house 89 = .ok (.ireturn, 1) := by decide +kernel
set_option maxRecDepth 100000 in
set_option maxHeartbeats 4000000 in
theorem kX11_house (l : Launch) (w : wT) (hw : yOk w 55) (σ : Hp) (a1 : Int32) (a2 : Int32) (a3 : Int32) (K : Int32 → Hp → Prop) (hv : VX11_house K σ a1 a2 a3) : yMet l w xcf 55 yX11_house cX11_house 5 (some .int) 2 [.ref (w.1 0), .int a1, .int a2, .int a3] σ (yQi w xcf 55 K) := by
  unfold VX11_house at hv
  refine y_start (lv0 := [(0, .ref (w.1 0)), (1, .int a1), (2, .int a2), (3, .int a3)]) (by decide +kernel) (own := RX11) rfl hw (Nat.le_of_ble_eq_true rfl) rfl (fun p e s m below meth c A E => ?_)
  have hb70 : ∀ (σ : Hp) (l1 : Int32) (l2 : Int32) (l3 : Int32) (s0 : Int32), VX11_house_b70 K σ l1 l2 l3 s0 → YY p l e (yRm 2) s m [.ref (w.1 0), .int a1, .int a2, .int a3].toArray below meth c w xcf 55 A (MQ below (yQi w xcf 55 K A) [.ref (w.1 0), .int a1, .int a2, .int a3].toArray s 0 0 A) 5 σ 70 [(0, .ref (w.1 0)), (1, .int l1), (2, .int l2), (3, .int l3)] [.int s0] := by
    intro σ l1 l2 l3 s0 hv
    unfold VX11_house_b70 at hv
    refine y_istore (lv' := [(4, .int s0), (0, .ref (w.1 0)), (1, .int l1), (2, .int l2), (3, .int l3)]) E dX11_house_70 (by decide) rfl ?_
    refine y_iload E dX11_house_72 0 rfl ?_
    refine y_iload_n E dX11_house_74 4 rfl ?_
    refine y_icmp_eq (tgt := 87) E dX11_house_75 (by decide) (fun c18 => ?_) (fun c18 => ?_)
    · replace hv := ite_t hv c18
      refine y_iload E dX11_house_87 0 rfl ?_
      exact y_iret E dX11_house_89 hv
    · replace hv := ite_f hv c18
      refine y_aload_n E dX11_house_78 1 rfl ?_
      refine gf_X11_0 E (by decide) (by decide) wm_272 dX11_house_79 ?_
      refine y_iload_n E dX11_house_82 2 rfl ?_
      refine y_iload_n E dX11_house_83 3 rfl ?_
      refine y_callv E (y_runV E (rest := []) (kX3_flip l w E.2.2.1 σ 1 l1 l2 _ hv) (y_cwV 2 E.1.2.2.2.2 wm_278 wm_279 wm_280 wm_123 wm_281 (by decide +kernel) (yRm_le (by decide) (by decide))) (Nat.lt_of_lt_of_le (show 1 < 3 by decide) (by decide)) (xc_X3 (by decide) (by decide)) rfl rfl rfl (Nat.le_of_ble_eq_true rfl) dX11_house_84) (fun u20 hk => ?_)
      clear hv
      have hv := hk
      clear hk
      refine y_iload E dX11_house_87 0 rfl ?_
      exact y_iret E dX11_house_89 hv
  have hb50 : ∀ (σ : Hp) (l1 : Int32) (l2 : Int32) (l3 : Int32), VX11_house_b50 K σ l1 l2 l3 → YY p l e (yRm 2) s m [.ref (w.1 0), .int a1, .int a2, .int a3].toArray below meth c w xcf 55 A (MQ below (yQi w xcf 55 K A) [.ref (w.1 0), .int a1, .int a2, .int a3].toArray s 0 0 A) 5 σ 50 [(0, .ref (w.1 0)), (1, .int l1), (2, .int l2), (3, .int l3)] [] := by
    intro σ l1 l2 l3 hv
    unfold VX11_house_b50 at hv
    refine y_aload_n E dX11_house_50 0 rfl ?_
    refine gf_X11_0 E (by decide) (by decide) wm_272 dX11_house_51 ?_
    refine y_iload_n E dX11_house_54 1 rfl ?_
    refine y_calli E (y_runV E (rest := []) (kX3_bits l w E.2.2.1 σ 1 l1 _ hv) (y_cwV 1 E.1.2.2.2.2 wm_273 wm_275 wm_276 wm_123 wm_277 (by decide +kernel) (yRm_le (by decide) (by decide))) (Nat.lt_of_lt_of_le (show 1 < 3 by decide) (by decide)) (xc_X3 (by decide) (by decide)) rfl rfl rfl (Nat.le_of_ble_eq_true rfl) dX11_house_55) (fun v13 u14 hk => ?_)
    clear hv
    have hv := hk
    clear hk
    refine y_iload_n E dX11_house_58 2 rfl ?_
    refine y_calli E (y_runS E (rest := []) (kX11_has l w E.2.2.1 u14 v13 l2 _ hv) (y_cwS 2 E.1.2.2.2.2 wm_274 wm_115 wm_116 wm_117 (by decide +kernel) (yRm_le (by decide) (by decide))) rfl rfl (Nat.le_of_ble_eq_true rfl) dX11_house_59) (fun v15 u16 hk => ?_)
    clear hv
    have hv := hk
    clear hk
    refine y_if_eq (tgt := 69) E dX11_house_62 (by decide) (fun c17 => ?_) (fun c17 => ?_)
    · replace hv := ite_t hv c17
      refine y_iconst (v := 0) E dX11_house_69 (by decide) ?_
      exact hb70 u16 l1 l2 l3 0 hv
    · replace hv := ite_f hv c17
      refine y_iconst (v := 1) E dX11_house_65 (by decide) ?_
      refine y_goto (tgt := 70) E dX11_house_66 (by decide) ?_
      exact hb70 u16 l1 l2 l3 1 hv
  refine y_iload_n E dX11_house_0 1 rfl ?_
  refine y_if_lt (tgt := 9) E dX11_house_1 (by decide) (fun c1 => ?_) (fun c1 => ?_)
  · replace hv := ite_t hv c1
    refine y_iconst (v := (-1)) E dX11_house_9 (by decide) ?_
    exact y_iret E dX11_house_10 hv
  · replace hv := ite_f hv c1
    refine y_iload_n E dX11_house_4 1 rfl ?_
    refine y_iconst (v := 2) E dX11_house_5 (by decide) ?_
    refine y_icmp_le (tgt := 11) E dX11_house_6 (by decide) (fun c2 => ?_) (fun c2 => ?_)
    · replace hv := ite_t hv c2
      refine y_iload_n E dX11_house_11 2 rfl ?_
      refine y_calli E (y_runS E (rest := []) (kX11_isCell l w E.2.2.1 σ a2 _ hv) (y_cwS 1 E.1.2.2.2.2 wm_265 wm_270 wm_116 wm_271 (by decide +kernel) (yRm_le (by decide) (by decide))) rfl rfl (Nat.le_of_ble_eq_true rfl) dX11_house_12) (fun v3 u4 hk => ?_)
      clear hv
      have hv := hk
      clear hk
      refine y_if_eq (tgt := 27) E dX11_house_15 (by decide) (fun c5 => ?_) (fun c5 => ?_)
      · replace hv := ite_t hv c5
        refine y_bipush (v := (-2)) E dX11_house_27 (by decide) ?_
        exact y_iret E dX11_house_29 hv
      · replace hv := ite_f hv c5
        refine y_iload_n E dX11_house_18 3 rfl ?_
        refine y_if_lt (tgt := 27) E dX11_house_19 (by decide) (fun c6 => ?_) (fun c6 => ?_)
        · replace hv := ite_t hv c6
          refine y_bipush (v := (-2)) E dX11_house_27 (by decide) ?_
          exact y_iret E dX11_house_29 hv
        · replace hv := ite_f hv c6
          refine y_iload_n E dX11_house_22 3 rfl ?_
          refine y_iconst (v := 1) E dX11_house_23 (by decide) ?_
          refine y_icmp_le (tgt := 30) E dX11_house_24 (by decide) (fun c7 => ?_) (fun c7 => ?_)
          · replace hv := ite_t hv c7
            refine y_iload_n E dX11_house_30 1 rfl ?_
            refine y_if_ne (tgt := 50) E dX11_house_31 (by decide) (fun c8 => ?_) (fun c8 => ?_)
            · replace hv := ite_f hv c8
              exact hb50 u4 a1 a2 a3 hv
            · replace hv := ite_t hv c8
              refine y_iload_n E dX11_house_34 3 rfl ?_
              refine y_iconst (v := 1) E dX11_house_35 (by decide) ?_
              refine y_icmp_ne (tgt := 50) E dX11_house_36 (by decide) (fun c9 => ?_) (fun c9 => ?_)
              · replace hv := ite_f hv c9
                exact hb50 u4 a1 a2 a3 hv
              · replace hv := ite_t hv c9
                refine y_aload_n E dX11_house_39 0 rfl ?_
                refine y_iload_n E dX11_house_40 2 rfl ?_
                refine y_calli E (y_runV E (rest := []) (kX11_isAnyThingIn l w E.2.2.1 u4 a2 _ hv) (y_cwV 1 E.1.2.2.2.2 wm_266 wm_267 wm_268 wm_116 wm_269 (by decide +kernel) (yRm_le (by decide) (by decide))) (Nat.lt_of_lt_of_le (show 0 < 1 by decide) (by decide)) (xc_X11 (by decide) (by decide)) rfl rfl rfl (Nat.le_of_ble_eq_true rfl) dX11_house_41) (fun v10 u11 hk => ?_)
                clear hv
                have hv := hk
                clear hk
                refine y_if_eq (tgt := 50) E dX11_house_44 (by decide) (fun c12 => ?_) (fun c12 => ?_)
                · replace hv := ite_t hv c12
                  exact hb50 u11 a1 a2 a3 hv
                · replace hv := ite_f hv c12
                  refine y_bipush (v := (-3)) E dX11_house_47 (by decide) ?_
                  exact y_iret E dX11_house_49 hv
          · replace hv := ite_f hv c7
            refine y_bipush (v := (-2)) E dX11_house_27 (by decide) ?_
            exact y_iret E dX11_house_29 hv
    · replace hv := ite_f hv c2
      refine y_iconst (v := (-1)) E dX11_house_9 (by decide) ?_
      exact y_iret E dX11_house_10 hv
theorem dX11_isStep_0 : decode cX11_isStep 0 = .ok (.iload_n 0, 1) := by decide +kernel
theorem dX11_isStep_1 : decode cX11_isStep 1 = .ok (.ifCond .lt 13, 3) := by decide +kernel
theorem dX11_isStep_4 : decode cX11_isStep 4 = .ok (.iload_n 0, 1) := by decide +kernel
theorem dX11_isStep_5 : decode cX11_isStep 5 = .ok (.bipush 99, 2) := by decide +kernel
theorem dX11_isStep_7 : decode cX11_isStep 7 = .ok (.if_icmp .gt 7, 3) := by decide +kernel
theorem dX11_isStep_10 : decode cX11_isStep 10 = .ok (.iconst 1, 1) := by decide +kernel
theorem dX11_isStep_11 : decode cX11_isStep 11 = .ok (.goto 4, 3) := by decide +kernel
theorem dX11_isStep_14 : decode cX11_isStep 14 = .ok (.iconst 0, 1) := by decide +kernel
theorem dX11_isStep_15 : decode cX11_isStep 15 = .ok (.ireturn, 1) := by decide +kernel
set_option maxRecDepth 100000 in
set_option maxHeartbeats 4000000 in
theorem kX11_isStep (l : Launch) (w : wT) (hw : yOk w 55) (σ : Hp) (a1 : Int32) (K : Int32 → Hp → Prop) (hv : VX11_isStep K σ a1) : yMet l w xcf 55 yX11_isStep cX11_isStep 1 (some .boolean) 1 [.int a1] σ (yQi w xcf 55 K) := by
  unfold VX11_isStep at hv
  refine y_start (lv0 := [(0, .int a1)]) (by decide +kernel) (own := RX11) rfl hw (Nat.le_of_ble_eq_true rfl) rfl (fun p e s m below meth c A E => ?_)
  refine y_iload_n E dX11_isStep_0 0 rfl ?_
  refine y_if_lt (tgt := 14) E dX11_isStep_1 (by decide) (fun c1 => ?_) (fun c1 => ?_)
  · replace hv := ite_t hv c1
    refine y_iconst (v := 0) E dX11_isStep_14 (by decide) ?_
    exact y_nret E dX11_isStep_15 (by decide) hv
  · replace hv := ite_f hv c1
    refine y_iload_n E dX11_isStep_4 0 rfl ?_
    refine y_bipush (v := 99) E dX11_isStep_5 (by decide) ?_
    refine y_icmp_gt (tgt := 14) E dX11_isStep_7 (by decide) (fun c2 => ?_) (fun c2 => ?_)
    · replace hv := ite_t hv c2
      refine y_iconst (v := 0) E dX11_isStep_14 (by decide) ?_
      exact y_nret E dX11_isStep_15 (by decide) hv
    · replace hv := ite_f hv c2
      refine y_iconst (v := 1) E dX11_isStep_10 (by decide) ?_
      refine y_goto (tgt := 15) E dX11_isStep_11 (by decide) ?_
      exact y_nret E dX11_isStep_15 (by decide) hv
theorem dX11_set_0 : decode cX11_set 0 = .ok (.iload_n 1, 1) := by decide +kernel
theorem dX11_set_1 : decode cX11_set 1 = .ok (.invokestatic 116, 3) := by decide +kernel
theorem dX11_set_4 : decode cX11_set 4 = .ok (.ifCond .ne 6, 3) := by decide +kernel
theorem dX11_set_7 : decode cX11_set 7 = .ok (.bipush (-2), 2) := by decide +kernel
theorem dX11_set_9 : decode cX11_set 9 = .ok (.ireturn, 1) := by decide +kernel
theorem dX11_set_10 : decode cX11_set 10 = .ok (.aload_n 0, 1) := by decide +kernel
theorem dX11_set_11 : decode cX11_set 11 = .ok (.getfield 12, 3) := by decide +kernel
theorem dX11_set_14 : decode cX11_set 14 = .ok (.getfield 119, 3) := by decide +kernel
theorem dX11_set_17 : decode cX11_set 17 = .ok (.istore_n 2, 1) := by decide +kernel
theorem dX11_set_18 : decode cX11_set 18 = .ok (.aload_n 0, 1) := by decide +kernel
theorem dX11_set_19 : decode cX11_set 19 = .ok (.getfield 12, 3) := by decide +kernel
theorem dX11_set_22 : decode cX11_set 22 = .ok (.iload_n 1, 1) := by decide +kernel
theorem dX11_set_23 : decode cX11_set 23 = .ok (.putfield 119, 3) := by decide +kernel
theorem dX11_set_26 : decode cX11_set 26 = .ok (.iload_n 2, 1) := by decide +kernel
theorem dX11_set_27 : decode cX11_set 27 = .ok (.ireturn, 1) := by decide +kernel
set_option maxRecDepth 100000 in
set_option maxHeartbeats 4000000 in
theorem kX11_set (l : Launch) (w : wT) (hw : yOk w 55) (σ : Hp) (a1 : Int32) (K : Int32 → Hp → Prop) (hv : VX11_set K σ a1) : yMet l w xcf 55 yX11_set cX11_set 3 (some .int) 2 [.ref (w.1 0), .int a1] σ (yQi w xcf 55 K) := by
  unfold VX11_set at hv
  refine y_start (lv0 := [(0, .ref (w.1 0)), (1, .int a1)]) (by decide +kernel) (own := RX11) rfl hw (Nat.le_of_ble_eq_true rfl) rfl (fun p e s m below meth c A E => ?_)
  refine y_iload_n E dX11_set_0 1 rfl ?_
  refine y_calli E (y_runS E (rest := []) (kX11_isStep l w E.2.2.1 σ a1 _ hv) (y_cwS 1 E.1.2.2.2.2 wm_282 wm_284 wm_116 wm_285 (by decide +kernel) (yRm_le (by decide) (by decide))) rfl rfl (Nat.le_of_ble_eq_true rfl) dX11_set_1) (fun v1 u2 hk => ?_)
  clear hv
  have hv := hk
  clear hk
  refine y_if_ne (tgt := 10) E dX11_set_4 (by decide) (fun c3 => ?_) (fun c3 => ?_)
  · replace hv := ite_f hv c3
    refine y_aload_n E dX11_set_10 0 rfl ?_
    refine gf_X11_0 E (by decide) (by decide) wm_272 dX11_set_11 ?_
    refine gf_X3_3 E (by decide) (by decide) wm_283 dX11_set_14 ?_
    refine y_nmi (fun x4 hx4 => ?_)
    replace hv := hv x4 hx4
    refine y_istore_n (lv' := [(2, .int x4), (0, .ref (w.1 0)), (1, .int a1)]) E dX11_set_17 (by decide) rfl ?_
    refine y_aload_n E dX11_set_18 1 rfl ?_
    refine gf_X11_0 E (by decide) (by decide) wm_272 dX11_set_19 ?_
    refine y_iload_n E dX11_set_22 2 rfl ?_
    refine pf_X3_3 E (by decide) (by decide) wm_283 dX11_set_23 ?_
    refine y_nmH (fun u5 hu5 => ?_)
    replace hv := hv u5 hu5
    refine y_iload_n E dX11_set_26 0 rfl ?_
    exact y_iret E dX11_set_27 hv
  · replace hv := ite_t hv c3
    refine y_bipush (v := (-2)) E dX11_set_7 (by decide) ?_
    exact y_iret E dX11_set_9 hv
theorem dX11_count_0 : decode cX11_count 0 = .ok (.iload_n 1, 1) := by decide +kernel
theorem dX11_count_1 : decode cX11_count 1 = .ok (.tableswitch 108 0 7 #[47, 55, 63, 71, 79, 87, 92, 100], 47) := by decide +kernel
theorem dX11_count_48 : decode cX11_count 48 = .ok (.aload_n 0, 1) := by decide +kernel
theorem dX11_count_49 : decode cX11_count 49 = .ok (.getfield 12, 3) := by decide +kernel
theorem dX11_count_52 : decode cX11_count 52 = .ok (.getfield 122, 3) := by decide +kernel
theorem dX11_count_55 : decode cX11_count 55 = .ok (.ireturn, 1) := by decide +kernel
theorem dX11_count_56 : decode cX11_count 56 = .ok (.aload_n 0, 1) := by decide +kernel
theorem dX11_count_57 : decode cX11_count 57 = .ok (.getfield 12, 3) := by decide +kernel
theorem dX11_count_60 : decode cX11_count 60 = .ok (.getfield 125, 3) := by decide +kernel
theorem dX11_count_63 : decode cX11_count 63 = .ok (.ireturn, 1) := by decide +kernel
theorem dX11_count_64 : decode cX11_count 64 = .ok (.aload_n 0, 1) := by decide +kernel
theorem dX11_count_65 : decode cX11_count 65 = .ok (.getfield 12, 3) := by decide +kernel
theorem dX11_count_68 : decode cX11_count 68 = .ok (.getfield 128, 3) := by decide +kernel
theorem dX11_count_71 : decode cX11_count 71 = .ok (.ireturn, 1) := by decide +kernel
theorem dX11_count_72 : decode cX11_count 72 = .ok (.aload_n 0, 1) := by decide +kernel
theorem dX11_count_73 : decode cX11_count 73 = .ok (.getfield 12, 3) := by decide +kernel
theorem dX11_count_76 : decode cX11_count 76 = .ok (.getfield 131, 3) := by decide +kernel
theorem dX11_count_79 : decode cX11_count 79 = .ok (.ireturn, 1) := by decide +kernel
theorem dX11_count_80 : decode cX11_count 80 = .ok (.aload_n 0, 1) := by decide +kernel
theorem dX11_count_81 : decode cX11_count 81 = .ok (.getfield 12, 3) := by decide +kernel
theorem dX11_count_84 : decode cX11_count 84 = .ok (.getfield 119, 3) := by decide +kernel
theorem dX11_count_87 : decode cX11_count 87 = .ok (.ireturn, 1) := by decide +kernel
theorem dX11_count_88 : decode cX11_count 88 = .ok (.aload_n 0, 1) := by decide +kernel
theorem dX11_count_89 : decode cX11_count 89 = .ok (.getfield 92, 3) := by decide +kernel
theorem dX11_count_92 : decode cX11_count 92 = .ok (.ireturn, 1) := by decide +kernel
theorem dX11_count_93 : decode cX11_count 93 = .ok (.aload_n 0, 1) := by decide +kernel
theorem dX11_count_94 : decode cX11_count 94 = .ok (.getfield 12, 3) := by decide +kernel
theorem dX11_count_97 : decode cX11_count 97 = .ok (.getfield 134, 3) := by decide +kernel
theorem dX11_count_100 : decode cX11_count 100 = .ok (.ireturn, 1) := by decide +kernel
theorem dX11_count_101 : decode cX11_count 101 = .ok (.aload_n 0, 1) := by decide +kernel
theorem dX11_count_102 : decode cX11_count 102 = .ok (.getfield 34, 3) := by decide +kernel
theorem dX11_count_105 : decode cX11_count 105 = .ok (.getfield 137, 3) := by decide +kernel
theorem dX11_count_108 : decode cX11_count 108 = .ok (.ireturn, 1) := by decide +kernel
theorem dX11_count_109 : decode cX11_count 109 = .ok (.bipush (-2), 2) := by decide +kernel
theorem dX11_count_111 : decode cX11_count 111 = .ok (.ireturn, 1) := by decide +kernel
set_option maxRecDepth 100000 in
set_option maxHeartbeats 4000000 in
theorem kX11_count (l : Launch) (w : wT) (hw : yOk w 55) (σ : Hp) (a1 : Int32) (K : Int32 → Hp → Prop) (hv : VX11_count K σ a1) : yMet l w xcf 55 yX11_count cX11_count 2 (some .int) 1 [.ref (w.1 0), .int a1] σ (yQi w xcf 55 K) := by
  unfold VX11_count at hv
  refine y_start (lv0 := [(0, .ref (w.1 0)), (1, .int a1)]) (by decide +kernel) (own := RX11) rfl hw (Nat.le_of_ble_eq_true rfl) rfl (fun p e s m below meth c A E => ?_)
  refine y_iload_n E dX11_count_0 1 rfl ?_
  by_cases c1 : a1 = 0
  · replace hv := ite_t hv c1
    refine y_table1 (tgt := 48) (off := 47) (j := 0) E dX11_count_1 (i32_eq (z := 0) (by decide) c1) (by decide) rfl (by decide) ?_
    refine y_aload_n E dX11_count_48 0 rfl ?_
    refine gf_X11_0 E (by decide) (by decide) wm_272 dX11_count_49 ?_
    refine gf_X3_5 E (by decide) (by decide) wm_286 dX11_count_52 ?_
    exact y_iret E dX11_count_55 hv
  · replace hv := ite_f hv c1
    by_cases c2 : a1 = 1
    · replace hv := ite_t hv c2
      refine y_table1 (tgt := 56) (off := 55) (j := 1) E dX11_count_1 (i32_eq (z := 1) (by decide) c2) (by decide) rfl (by decide) ?_
      refine y_aload_n E dX11_count_56 0 rfl ?_
      refine gf_X11_0 E (by decide) (by decide) wm_272 dX11_count_57 ?_
      refine gf_X3_0 E (by decide) (by decide) wm_287 dX11_count_60 ?_
      exact y_iret E dX11_count_63 hv
    · replace hv := ite_f hv c2
      by_cases c3 : a1 = 2
      · replace hv := ite_t hv c3
        refine y_table1 (tgt := 64) (off := 63) (j := 2) E dX11_count_1 (i32_eq (z := 2) (by decide) c3) (by decide) rfl (by decide) ?_
        refine y_aload_n E dX11_count_64 0 rfl ?_
        refine gf_X11_0 E (by decide) (by decide) wm_272 dX11_count_65 ?_
        refine gf_X3_1 E (by decide) (by decide) wm_288 dX11_count_68 ?_
        exact y_iret E dX11_count_71 hv
      · replace hv := ite_f hv c3
        by_cases c4 : a1 = 3
        · replace hv := ite_t hv c4
          refine y_table1 (tgt := 72) (off := 71) (j := 3) E dX11_count_1 (i32_eq (z := 3) (by decide) c4) (by decide) rfl (by decide) ?_
          refine y_aload_n E dX11_count_72 0 rfl ?_
          refine gf_X11_0 E (by decide) (by decide) wm_272 dX11_count_73 ?_
          refine gf_X3_2 E (by decide) (by decide) wm_289 dX11_count_76 ?_
          exact y_iret E dX11_count_79 hv
        · replace hv := ite_f hv c4
          by_cases c5 : a1 = 4
          · replace hv := ite_t hv c5
            refine y_table1 (tgt := 80) (off := 79) (j := 4) E dX11_count_1 (i32_eq (z := 4) (by decide) c5) (by decide) rfl (by decide) ?_
            refine y_aload_n E dX11_count_80 0 rfl ?_
            refine gf_X11_0 E (by decide) (by decide) wm_272 dX11_count_81 ?_
            refine gf_X3_3 E (by decide) (by decide) wm_283 dX11_count_84 ?_
            exact y_iret E dX11_count_87 hv
          · replace hv := ite_f hv c5
            by_cases c6 : a1 = 5
            · replace hv := ite_t hv c6
              refine y_table1 (tgt := 88) (off := 87) (j := 5) E dX11_count_1 (i32_eq (z := 5) (by decide) c6) (by decide) rfl (by decide) ?_
              refine y_aload_n E dX11_count_88 0 rfl ?_
              refine gf_X11_5 E (by decide) (by decide) wm_290 dX11_count_89 ?_
              exact y_iret E dX11_count_92 hv
            · replace hv := ite_f hv c6
              by_cases c7 : a1 = 6
              · replace hv := ite_t hv c7
                refine y_table1 (tgt := 93) (off := 92) (j := 6) E dX11_count_1 (i32_eq (z := 6) (by decide) c7) (by decide) rfl (by decide) ?_
                refine y_aload_n E dX11_count_93 0 rfl ?_
                refine gf_X11_0 E (by decide) (by decide) wm_272 dX11_count_94 ?_
                refine gf_X3_4 E (by decide) (by decide) wm_291 dX11_count_97 ?_
                exact y_iret E dX11_count_100 hv
              · replace hv := ite_f hv c7
                by_cases c8 : a1 = 7
                · replace hv := ite_t hv c8
                  refine y_table1 (tgt := 101) (off := 100) (j := 7) E dX11_count_1 (i32_eq (z := 7) (by decide) c8) (by decide) rfl (by decide) ?_
                  refine y_aload_n E dX11_count_101 0 rfl ?_
                  refine gf_X11_6 E (by decide) (by decide) wm_292 dX11_count_102 ?_
                  refine gf_X4_1 E (by decide) (by decide) wm_293 dX11_count_105 ?_
                  exact y_iret E dX11_count_108 hv
                · replace hv := ite_f hv c8
                  refine y_table0 (tgt := 109) E dX11_count_1 (by decide) (fun j hj => ?_) (by decide) ?_
                  · match j, hj with
                    | 0, _ => exact Or.inr (i32_ne (z := 0 + ((0 : Nat) : Int)) (by decide) c1)
                    | 1, _ => exact Or.inr (i32_ne (z := 0 + ((1 : Nat) : Int)) (by decide) c2)
                    | 2, _ => exact Or.inr (i32_ne (z := 0 + ((2 : Nat) : Int)) (by decide) c3)
                    | 3, _ => exact Or.inr (i32_ne (z := 0 + ((3 : Nat) : Int)) (by decide) c4)
                    | 4, _ => exact Or.inr (i32_ne (z := 0 + ((4 : Nat) : Int)) (by decide) c5)
                    | 5, _ => exact Or.inr (i32_ne (z := 0 + ((5 : Nat) : Int)) (by decide) c6)
                    | 6, _ => exact Or.inr (i32_ne (z := 0 + ((6 : Nat) : Int)) (by decide) c7)
                    | 7, _ => exact Or.inr (i32_ne (z := 0 + ((7 : Nat) : Int)) (by decide) c8)
                    | j + 8, hj => exact absurd hj (by simp)
                  · refine y_bipush (v := (-2)) E dX11_count_109 (by decide) ?_
                    exact y_iret E dX11_count_111 hv
theorem dX11_isByte_0 : decode cX11_isByte 0 = .ok (.iload_n 0, 1) := by decide +kernel
theorem dX11_isByte_1 : decode cX11_isByte 1 = .ok (.ifCond .lt 14, 3) := by decide +kernel
theorem dX11_isByte_4 : decode cX11_isByte 4 = .ok (.iload_n 0, 1) := by decide +kernel
theorem dX11_isByte_5 : decode cX11_isByte 5 = .ok (.sipush 255, 3) := by decide +kernel
theorem dX11_isByte_8 : decode cX11_isByte 8 = .ok (.if_icmp .gt 7, 3) := by decide +kernel
theorem dX11_isByte_11 : decode cX11_isByte 11 = .ok (.iconst 1, 1) := by decide +kernel
theorem dX11_isByte_12 : decode cX11_isByte 12 = .ok (.goto 4, 3) := by decide +kernel
theorem dX11_isByte_15 : decode cX11_isByte 15 = .ok (.iconst 0, 1) := by decide +kernel
theorem dX11_isByte_16 : decode cX11_isByte 16 = .ok (.ireturn, 1) := by decide +kernel
set_option maxRecDepth 100000 in
set_option maxHeartbeats 4000000 in
theorem kX11_isByte (l : Launch) (w : wT) (hw : yOk w 55) (σ : Hp) (a1 : Int32) (K : Int32 → Hp → Prop) (hv : VX11_isByte K σ a1) : yMet l w xcf 55 yX11_isByte cX11_isByte 1 (some .boolean) 1 [.int a1] σ (yQi w xcf 55 K) := by
  unfold VX11_isByte at hv
  refine y_start (lv0 := [(0, .int a1)]) (by decide +kernel) (own := RX11) rfl hw (Nat.le_of_ble_eq_true rfl) rfl (fun p e s m below meth c A E => ?_)
  refine y_iload_n E dX11_isByte_0 0 rfl ?_
  refine y_if_lt (tgt := 15) E dX11_isByte_1 (by decide) (fun c1 => ?_) (fun c1 => ?_)
  · replace hv := ite_t hv c1
    refine y_iconst (v := 0) E dX11_isByte_15 (by decide) ?_
    exact y_nret E dX11_isByte_16 (by decide) hv
  · replace hv := ite_f hv c1
    refine y_iload_n E dX11_isByte_4 0 rfl ?_
    refine y_sipush (v := 255) E dX11_isByte_5 (by decide) ?_
    refine y_icmp_gt (tgt := 15) E dX11_isByte_8 (by decide) (fun c2 => ?_) (fun c2 => ?_)
    · replace hv := ite_t hv c2
      refine y_iconst (v := 0) E dX11_isByte_15 (by decide) ?_
      exact y_nret E dX11_isByte_16 (by decide) hv
    · replace hv := ite_f hv c2
      refine y_iconst (v := 1) E dX11_isByte_11 (by decide) ?_
      refine y_goto (tgt := 16) E dX11_isByte_12 (by decide) ?_
      exact y_nret E dX11_isByte_16 (by decide) hv
theorem dX11_feed_0 : decode cX11_feed 0 = .ok (.iload_n 1, 1) := by decide +kernel
theorem dX11_feed_1 : decode cX11_feed 1 = .ok (.iconst 1, 1) := by decide +kernel
theorem dX11_feed_2 : decode cX11_feed 2 = .ok (.if_icmp .lt 8, 3) := by decide +kernel
theorem dX11_feed_5 : decode cX11_feed 5 = .ok (.iload_n 1, 1) := by decide +kernel
theorem dX11_feed_6 : decode cX11_feed 6 = .ok (.iconst 5, 1) := by decide +kernel
theorem dX11_feed_7 : decode cX11_feed 7 = .ok (.if_icmp .le 6, 3) := by decide +kernel
theorem dX11_feed_10 : decode cX11_feed 10 = .ok (.bipush (-2), 2) := by decide +kernel
theorem dX11_feed_12 : decode cX11_feed 12 = .ok (.ireturn, 1) := by decide +kernel
theorem dX11_feed_13 : decode cX11_feed 13 = .ok (.iload_n 2, 1) := by decide +kernel
theorem dX11_feed_14 : decode cX11_feed 14 = .ok (.invokestatic 140, 3) := by decide +kernel
theorem dX11_feed_17 : decode cX11_feed 17 = .ok (.ifCond .eq 34, 3) := by decide +kernel
theorem dX11_feed_20 : decode cX11_feed 20 = .ok (.iload_n 3, 1) := by decide +kernel
theorem dX11_feed_21 : decode cX11_feed 21 = .ok (.invokestatic 140, 3) := by decide +kernel
theorem dX11_feed_24 : decode cX11_feed 24 = .ok (.ifCond .eq 27, 3) := by decide +kernel
theorem dX11_feed_27 : decode cX11_feed 27 = .ok (.iload 4, 2) := by decide +kernel
theorem dX11_feed_29 : decode cX11_feed 29 = .ok (.invokestatic 140, 3) := by decide +kernel
theorem dX11_feed_32 : decode cX11_feed 32 = .ok (.ifCond .eq 19, 3) := by decide +kernel
theorem dX11_feed_35 : decode cX11_feed 35 = .ok (.iload 5, 2) := by decide +kernel
theorem dX11_feed_37 : decode cX11_feed 37 = .ok (.invokestatic 140, 3) := by decide +kernel
theorem dX11_feed_40 : decode cX11_feed 40 = .ok (.ifCond .eq 11, 3) := by decide +kernel
theorem dX11_feed_43 : decode cX11_feed 43 = .ok (.iload 6, 2) := by decide +kernel
theorem dX11_feed_45 : decode cX11_feed 45 = .ok (.invokestatic 140, 3) := by decide +kernel
theorem dX11_feed_48 : decode cX11_feed 48 = .ok (.ifCond .ne 6, 3) := by decide +kernel
theorem dX11_feed_51 : decode cX11_feed 51 = .ok (.bipush (-2), 2) := by decide +kernel
theorem dX11_feed_53 : decode cX11_feed 53 = .ok (.ireturn, 1) := by decide +kernel
theorem dX11_feed_54 : decode cX11_feed 54 = .ok (.aload_n 0, 1) := by decide +kernel
theorem dX11_feed_55 : decode cX11_feed 55 = .ok (.getfield 34, 3) := by decide +kernel
theorem dX11_feed_58 : decode cX11_feed 58 = .ok (.getfield 137, 3) := by decide +kernel
theorem dX11_feed_61 : decode cX11_feed 61 = .ok (.iload_n 1, 1) := by decide +kernel
theorem dX11_feed_62 : decode cX11_feed 62 = .ok (.iadd, 1) := by decide +kernel
theorem dX11_feed_63 : decode cX11_feed 63 = .ok (.sipush 160, 3) := by decide +kernel
theorem dX11_feed_66 : decode cX11_feed 66 = .ok (.if_icmp .le 6, 3) := by decide +kernel
theorem dX11_feed_69 : decode cX11_feed 69 = .ok (.bipush (-4), 2) := by decide +kernel
theorem dX11_feed_71 : decode cX11_feed 71 = .ok (.ireturn, 1) := by decide +kernel
theorem dX11_feed_72 : decode cX11_feed 72 = .ok (.iconst 0, 1) := by decide +kernel
theorem dX11_feed_73 : decode cX11_feed 73 = .ok (.istore 7, 2) := by decide +kernel
theorem dX11_feed_75 : decode cX11_feed 75 = .ok (.iload 7, 2) := by decide +kernel
theorem dX11_feed_77 : decode cX11_feed 77 = .ok (.iload_n 1, 1) := by decide +kernel
theorem dX11_feed_78 : decode cX11_feed 78 = .ok (.if_icmp .ge 59, 3) := by decide +kernel
theorem dX11_feed_81 : decode cX11_feed 81 = .ok (.aload_n 0, 1) := by decide +kernel
theorem dX11_feed_82 : decode cX11_feed 82 = .ok (.getfield 34, 3) := by decide +kernel
theorem dX11_feed_85 : decode cX11_feed 85 = .ok (.iload 7, 2) := by decide +kernel
theorem dX11_feed_87 : decode cX11_feed 87 = .ok (.ifCond .ne 7, 3) := by decide +kernel
theorem dX11_feed_90 : decode cX11_feed 90 = .ok (.iload_n 2, 1) := by decide +kernel
theorem dX11_feed_91 : decode cX11_feed 91 = .ok (.goto 37, 3) := by decide +kernel
theorem dX11_feed_94 : decode cX11_feed 94 = .ok (.iload 7, 2) := by decide +kernel
theorem dX11_feed_96 : decode cX11_feed 96 = .ok (.iconst 1, 1) := by decide +kernel
theorem dX11_feed_97 : decode cX11_feed 97 = .ok (.if_icmp .ne 7, 3) := by decide +kernel
theorem dX11_feed_100 : decode cX11_feed 100 = .ok (.iload_n 3, 1) := by decide +kernel
theorem dX11_feed_101 : decode cX11_feed 101 = .ok (.goto 27, 3) := by decide +kernel
theorem dX11_feed_104 : decode cX11_feed 104 = .ok (.iload 7, 2) := by decide +kernel
theorem dX11_feed_106 : decode cX11_feed 106 = .ok (.iconst 2, 1) := by decide +kernel
theorem dX11_feed_107 : decode cX11_feed 107 = .ok (.if_icmp .ne 8, 3) := by decide +kernel
theorem dX11_feed_110 : decode cX11_feed 110 = .ok (.iload 4, 2) := by decide +kernel
theorem dX11_feed_112 : decode cX11_feed 112 = .ok (.goto 16, 3) := by decide +kernel
theorem dX11_feed_115 : decode cX11_feed 115 = .ok (.iload 7, 2) := by decide +kernel
theorem dX11_feed_117 : decode cX11_feed 117 = .ok (.iconst 3, 1) := by decide +kernel
theorem dX11_feed_118 : decode cX11_feed 118 = .ok (.if_icmp .ne 8, 3) := by decide +kernel
theorem dX11_feed_121 : decode cX11_feed 121 = .ok (.iload 5, 2) := by decide +kernel
theorem dX11_feed_123 : decode cX11_feed 123 = .ok (.goto 5, 3) := by decide +kernel
theorem dX11_feed_126 : decode cX11_feed 126 = .ok (.iload 6, 2) := by decide +kernel
theorem dX11_feed_128 : decode cX11_feed 128 = .ok (.invokevirtual 143, 3) := by decide +kernel
theorem dX11_feed_131 : decode cX11_feed 131 = .ok (.iinc 7 1, 3) := by decide +kernel
theorem dX11_feed_134 : decode cX11_feed 134 = .ok (.goto (-59), 3) := by decide +kernel
theorem dX11_feed_137 : decode cX11_feed 137 = .ok (.aload_n 0, 1) := by decide +kernel
theorem dX11_feed_138 : decode cX11_feed 138 = .ok (.getfield 34, 3) := by decide +kernel
theorem dX11_feed_141 : decode cX11_feed 141 = .ok (.getfield 137, 3) := by decide +kernel
theorem dX11_feed_144 : decode cX11_feed 144 = .ok (.ireturn, 1) := by decide +kernel
set_option maxRecDepth 100000 in
set_option maxHeartbeats 4000000 in
theorem kX11_feed (l : Launch) (w : wT) (hw : yOk w 55) (σ : Hp) (a1 : Int32) (a2 : Int32) (a3 : Int32) (a4 : Int32) (a5 : Int32) (a6 : Int32) (K : Int32 → Hp → Prop) (hv : VX11_feed K σ a1 a2 a3 a4 a5 a6) : yMet l w xcf 55 yX11_feed cX11_feed 8 (some .int) 2 [.ref (w.1 0), .int a1, .int a2, .int a3, .int a4, .int a5, .int a6] σ (yQi w xcf 55 K) := by
  unfold VX11_feed at hv
  refine y_start (lv0 := [(0, .ref (w.1 0)), (1, .int a1), (2, .int a2), (3, .int a3), (4, .int a4), (5, .int a5), (6, .int a6)]) (by decide +kernel) (own := RX11) rfl hw (Nat.le_of_ble_eq_true rfl) rfl (fun p e s m below meth c A E => ?_)
  have hL75 : ∀ (n75 : Nat) (σ : Hp) (l1 : Int32) (l2 : Int32) (l3 : Int32) (l4 : Int32) (l5 : Int32) (l6 : Int32) (l7 : Int32), VX11_feed_L75 K n75 σ l1 l2 l3 l4 l5 l6 l7 → YY p l e (yRm 2) s m [.ref (w.1 0), .int a1, .int a2, .int a3, .int a4, .int a5, .int a6].toArray below meth c w xcf 55 A (MQ below (yQi w xcf 55 K A) [.ref (w.1 0), .int a1, .int a2, .int a3, .int a4, .int a5, .int a6].toArray s 0 0 A) 8 σ 75 [(0, .ref (w.1 0)), (1, .int l1), (2, .int l2), (3, .int l3), (4, .int l4), (5, .int l5), (6, .int l6), (7, .int l7)] [] := by
    intro n75
    induction n75 with
    | zero => exact fun _ _ _ _ _ _ _ _ hv => (by unfold VX11_feed_L75 at hv; exact hv.elim)
    | succ n75 ih75 =>
      have hb128 : ∀ (σ : Hp) (l1 : Int32) (l2 : Int32) (l3 : Int32) (l4 : Int32) (l5 : Int32) (l6 : Int32) (l7 : Int32) (s0 : Int32), VX11_feed_b128 K (VX11_feed_L75 K n75) σ l1 l2 l3 l4 l5 l6 l7 s0 → YY p l e (yRm 2) s m [.ref (w.1 0), .int a1, .int a2, .int a3, .int a4, .int a5, .int a6].toArray below meth c w xcf 55 A (MQ below (yQi w xcf 55 K A) [.ref (w.1 0), .int a1, .int a2, .int a3, .int a4, .int a5, .int a6].toArray s 0 0 A) 8 σ 128 [(0, .ref (w.1 0)), (1, .int l1), (2, .int l2), (3, .int l3), (4, .int l4), (5, .int l5), (6, .int l6), (7, .int l7)] [.int s0, .ref (w.1 38)] := by
        intro σ l1 l2 l3 l4 l5 l6 l7 s0 hv
        unfold VX11_feed_b128 at hv
        refine y_callv E (y_runV E (rest := []) (kX4_add l w E.2.2.1 σ s0 _ hv) (y_cwV 1 E.1.2.2.2.2 wm_297 wm_298 wm_299 wm_157 wm_300 (by decide +kernel) (yRm_le (by decide) (by decide))) (Nat.lt_of_lt_of_le (show 38 < 39 by decide) (by decide)) (xc_X4 (by decide) (by decide)) rfl rfl rfl (Nat.le_of_ble_eq_true rfl) dX11_feed_128) (fun u25 hk => ?_)
        clear hv
        have hv := hk
        clear hk
        obtain ⟨x26, hx26⟩ : ∃ z : Int32, z = l7 + 1 := ⟨_, rfl⟩
        replace hv := hv x26 hx26
        refine y_iinc (v := x26) (lv' := [(7, .int x26), (0, .ref (w.1 0)), (1, .int l1), (2, .int l2), (3, .int l3), (4, .int l4), (5, .int l5), (6, .int l6)]) E dX11_feed_131 7 rfl (by rw [hx26]; rfl) (by decide) rfl ?_
        refine y_goto (tgt := 75) E dX11_feed_134 (by decide) ?_
        refine y_lv (lv' := [(0, .ref (w.1 0)), (1, .int l1), (2, .int l2), (3, .int l3), (4, .int l4), (5, .int l5), (6, .int l6), (7, .int x26)]) [1, 2, 3, 4, 5, 6, 7, 0] rfl ?_
        exact ih75 u25 l1 l2 l3 l4 l5 l6 x26 hv
      intro σ l1 l2 l3 l4 l5 l6 l7 hv
      unfold VX11_feed_L75 at hv
      refine y_iload E dX11_feed_75 7 rfl ?_
      refine y_iload_n E dX11_feed_77 1 rfl ?_
      refine y_icmp_ge (tgt := 137) E dX11_feed_78 (by decide) (fun c19 => ?_) (fun c19 => ?_)
      · replace hv := ite_t hv c19
        refine y_aload_n E dX11_feed_137 0 rfl ?_
        refine gf_X11_6 E (by decide) (by decide) wm_292 dX11_feed_138 ?_
        refine gf_X4_1 E (by decide) (by decide) wm_293 dX11_feed_141 ?_
        exact y_iret E dX11_feed_144 hv
      · replace hv := ite_f hv c19
        refine y_aload_n E dX11_feed_81 0 rfl ?_
        refine gf_X11_6 E (by decide) (by decide) wm_292 dX11_feed_82 ?_
        refine y_iload E dX11_feed_85 7 rfl ?_
        refine y_if_ne (tgt := 94) E dX11_feed_87 (by decide) (fun c20 => ?_) (fun c20 => ?_)
        · replace hv := ite_f hv c20
          refine y_iload E dX11_feed_94 7 rfl ?_
          refine y_iconst (v := 1) E dX11_feed_96 (by decide) ?_
          refine y_icmp_ne (tgt := 104) E dX11_feed_97 (by decide) (fun c21 => ?_) (fun c21 => ?_)
          · replace hv := ite_f hv c21
            refine y_iload E dX11_feed_104 7 rfl ?_
            refine y_iconst (v := 2) E dX11_feed_106 (by decide) ?_
            refine y_icmp_ne (tgt := 115) E dX11_feed_107 (by decide) (fun c22 => ?_) (fun c22 => ?_)
            · replace hv := ite_f hv c22
              refine y_iload E dX11_feed_115 7 rfl ?_
              refine y_iconst (v := 3) E dX11_feed_117 (by decide) ?_
              refine y_icmp_ne (tgt := 126) E dX11_feed_118 (by decide) (fun c23 => ?_) (fun c23 => ?_)
              · replace hv := ite_f hv c23
                refine y_iload E dX11_feed_126 6 rfl ?_
                exact hb128 σ l1 l2 l3 l4 l5 l6 l7 l6 hv
              · replace hv := ite_t hv c23
                refine y_iload E dX11_feed_121 5 rfl ?_
                refine y_goto (tgt := 128) E dX11_feed_123 (by decide) ?_
                exact hb128 σ l1 l2 l3 l4 l5 l6 l7 l5 hv
            · replace hv := ite_t hv c22
              refine y_iload E dX11_feed_110 4 rfl ?_
              refine y_goto (tgt := 128) E dX11_feed_112 (by decide) ?_
              exact hb128 σ l1 l2 l3 l4 l5 l6 l7 l4 hv
          · replace hv := ite_t hv c21
            refine y_iload_n E dX11_feed_100 3 rfl ?_
            refine y_goto (tgt := 128) E dX11_feed_101 (by decide) ?_
            exact hb128 σ l1 l2 l3 l4 l5 l6 l7 l3 hv
        · replace hv := ite_t hv c20
          refine y_iload_n E dX11_feed_90 2 rfl ?_
          refine y_goto (tgt := 128) E dX11_feed_91 (by decide) ?_
          exact hb128 σ l1 l2 l3 l4 l5 l6 l7 l2 hv
  refine y_iload_n E dX11_feed_0 1 rfl ?_
  refine y_iconst (v := 1) E dX11_feed_1 (by decide) ?_
  refine y_icmp_lt (tgt := 10) E dX11_feed_2 (by decide) (fun c1 => ?_) (fun c1 => ?_)
  · replace hv := ite_t hv c1
    refine y_bipush (v := (-2)) E dX11_feed_10 (by decide) ?_
    exact y_iret E dX11_feed_12 hv
  · replace hv := ite_f hv c1
    refine y_iload_n E dX11_feed_5 1 rfl ?_
    refine y_iconst (v := 5) E dX11_feed_6 (by decide) ?_
    refine y_icmp_le (tgt := 13) E dX11_feed_7 (by decide) (fun c2 => ?_) (fun c2 => ?_)
    · replace hv := ite_t hv c2
      refine y_iload_n E dX11_feed_13 2 rfl ?_
      refine y_calli E (y_runS E (rest := []) (kX11_isByte l w E.2.2.1 σ a2 _ hv) (y_cwS 1 E.1.2.2.2.2 wm_294 wm_295 wm_116 wm_296 (by decide +kernel) (yRm_le (by decide) (by decide))) rfl rfl (Nat.le_of_ble_eq_true rfl) dX11_feed_14) (fun v3 u4 hk => ?_)
      clear hv
      have hv := hk
      clear hk
      refine y_if_eq (tgt := 51) E dX11_feed_17 (by decide) (fun c5 => ?_) (fun c5 => ?_)
      · replace hv := ite_t hv c5
        refine y_bipush (v := (-2)) E dX11_feed_51 (by decide) ?_
        exact y_iret E dX11_feed_53 hv
      · replace hv := ite_f hv c5
        refine y_iload_n E dX11_feed_20 3 rfl ?_
        refine y_calli E (y_runS E (rest := []) (kX11_isByte l w E.2.2.1 u4 a3 _ hv) (y_cwS 1 E.1.2.2.2.2 wm_294 wm_295 wm_116 wm_296 (by decide +kernel) (yRm_le (by decide) (by decide))) rfl rfl (Nat.le_of_ble_eq_true rfl) dX11_feed_21) (fun v6 u7 hk => ?_)
        clear hv
        have hv := hk
        clear hk
        refine y_if_eq (tgt := 51) E dX11_feed_24 (by decide) (fun c8 => ?_) (fun c8 => ?_)
        · replace hv := ite_t hv c8
          refine y_bipush (v := (-2)) E dX11_feed_51 (by decide) ?_
          exact y_iret E dX11_feed_53 hv
        · replace hv := ite_f hv c8
          refine y_iload E dX11_feed_27 4 rfl ?_
          refine y_calli E (y_runS E (rest := []) (kX11_isByte l w E.2.2.1 u7 a4 _ hv) (y_cwS 1 E.1.2.2.2.2 wm_294 wm_295 wm_116 wm_296 (by decide +kernel) (yRm_le (by decide) (by decide))) rfl rfl (Nat.le_of_ble_eq_true rfl) dX11_feed_29) (fun v9 u10 hk => ?_)
          clear hv
          have hv := hk
          clear hk
          refine y_if_eq (tgt := 51) E dX11_feed_32 (by decide) (fun c11 => ?_) (fun c11 => ?_)
          · replace hv := ite_t hv c11
            refine y_bipush (v := (-2)) E dX11_feed_51 (by decide) ?_
            exact y_iret E dX11_feed_53 hv
          · replace hv := ite_f hv c11
            refine y_iload E dX11_feed_35 5 rfl ?_
            refine y_calli E (y_runS E (rest := []) (kX11_isByte l w E.2.2.1 u10 a5 _ hv) (y_cwS 1 E.1.2.2.2.2 wm_294 wm_295 wm_116 wm_296 (by decide +kernel) (yRm_le (by decide) (by decide))) rfl rfl (Nat.le_of_ble_eq_true rfl) dX11_feed_37) (fun v12 u13 hk => ?_)
            clear hv
            have hv := hk
            clear hk
            refine y_if_eq (tgt := 51) E dX11_feed_40 (by decide) (fun c14 => ?_) (fun c14 => ?_)
            · replace hv := ite_t hv c14
              refine y_bipush (v := (-2)) E dX11_feed_51 (by decide) ?_
              exact y_iret E dX11_feed_53 hv
            · replace hv := ite_f hv c14
              refine y_iload E dX11_feed_43 6 rfl ?_
              refine y_calli E (y_runS E (rest := []) (kX11_isByte l w E.2.2.1 u13 a6 _ hv) (y_cwS 1 E.1.2.2.2.2 wm_294 wm_295 wm_116 wm_296 (by decide +kernel) (yRm_le (by decide) (by decide))) rfl rfl (Nat.le_of_ble_eq_true rfl) dX11_feed_45) (fun v15 u16 hk => ?_)
              clear hv
              have hv := hk
              clear hk
              refine y_if_ne (tgt := 54) E dX11_feed_48 (by decide) (fun c17 => ?_) (fun c17 => ?_)
              · replace hv := ite_f hv c17
                refine y_aload_n E dX11_feed_54 0 rfl ?_
                refine gf_X11_6 E (by decide) (by decide) wm_292 dX11_feed_55 ?_
                refine gf_X4_1 E (by decide) (by decide) wm_293 dX11_feed_58 ?_
                refine y_iload_n E dX11_feed_61 1 rfl ?_
                refine y_iadd E dX11_feed_62 ?_
                refine y_sipush (v := 160) E dX11_feed_63 (by decide) ?_
                refine y_icmp_le (tgt := 72) E dX11_feed_66 (by decide) (fun c18 => ?_) (fun c18 => ?_)
                · replace hv := ite_t hv c18
                  refine y_iconst (v := 0) E dX11_feed_72 (by decide) ?_
                  refine y_istore (lv' := [(7, .int 0), (0, .ref (w.1 0)), (1, .int a1), (2, .int a2), (3, .int a3), (4, .int a4), (5, .int a5), (6, .int a6)]) E dX11_feed_73 (by decide) rfl ?_
                  refine y_lv (lv' := [(0, .ref (w.1 0)), (1, .int a1), (2, .int a2), (3, .int a3), (4, .int a4), (5, .int a5), (6, .int a6), (7, .int 0)]) [1, 2, 3, 4, 5, 6, 7, 0] rfl ?_
                  obtain ⟨n0, hv⟩ := hv
                  exact hL75 n0 u16 a1 a2 a3 a4 a5 a6 0 hv
                · replace hv := ite_f hv c18
                  refine y_bipush (v := (-4)) E dX11_feed_69 (by decide) ?_
                  exact y_iret E dX11_feed_71 hv
              · replace hv := ite_t hv c17
                refine y_bipush (v := (-2)) E dX11_feed_51 (by decide) ?_
                exact y_iret E dX11_feed_53 hv
    · replace hv := ite_f hv c2
      refine y_bipush (v := (-2)) E dX11_feed_10 (by decide) ?_
      exact y_iret E dX11_feed_12 hv
theorem dX11_text_0 : decode cX11_text 0 = .ok (.aload_n 0, 1) := by decide +kernel
theorem dX11_text_1 : decode cX11_text 1 = .ok (.getfield 92, 3) := by decide +kernel
theorem dX11_text_4 : decode cX11_text 4 = .ok (.bipush 6, 2) := by decide +kernel
theorem dX11_text_6 : decode cX11_text 6 = .ok (.if_icmp .lt 6, 3) := by decide +kernel
theorem dX11_text_9 : decode cX11_text 9 = .ok (.bipush (-4), 2) := by decide +kernel
theorem dX11_text_11 : decode cX11_text 11 = .ok (.ireturn, 1) := by decide +kernel
theorem dX11_text_12 : decode cX11_text 12 = .ok (.aload_n 0, 1) := by decide +kernel
theorem dX11_text_13 : decode cX11_text 13 = .ok (.getfield 34, 3) := by decide +kernel
theorem dX11_text_16 : decode cX11_text 16 = .ok (.aload_n 0, 1) := by decide +kernel
theorem dX11_text_17 : decode cX11_text 17 = .ok (.getfield 27, 3) := by decide +kernel
theorem dX11_text_20 : decode cX11_text 20 = .ok (.aload_n 0, 1) := by decide +kernel
theorem dX11_text_21 : decode cX11_text 21 = .ok (.getfield 92, 3) := by decide +kernel
theorem dX11_text_24 : decode cX11_text 24 = .ok (.aaload, 1) := by decide +kernel
theorem dX11_text_25 : decode cX11_text 25 = .ok (.invokevirtual 147, 3) := by decide +kernel
theorem dX11_text_28 : decode cX11_text 28 = .ok (.istore_n 1, 1) := by decide +kernel
theorem dX11_text_29 : decode cX11_text 29 = .ok (.aload_n 0, 1) := by decide +kernel
theorem dX11_text_30 : decode cX11_text 30 = .ok (.getfield 34, 3) := by decide +kernel
theorem dX11_text_33 : decode cX11_text 33 = .ok (.iconst 0, 1) := by decide +kernel
theorem dX11_text_34 : decode cX11_text 34 = .ok (.putfield 137, 3) := by decide +kernel
theorem dX11_text_37 : decode cX11_text 37 = .ok (.iload_n 1, 1) := by decide +kernel
theorem dX11_text_38 : decode cX11_text 38 = .ok (.ifCond .lt 8, 3) := by decide +kernel
theorem dX11_text_41 : decode cX11_text 41 = .ok (.bipush (-100), 2) := by decide +kernel
theorem dX11_text_43 : decode cX11_text 43 = .ok (.iload_n 1, 1) := by decide +kernel
theorem dX11_text_44 : decode cX11_text 44 = .ok (.isub, 1) := by decide +kernel
theorem dX11_text_45 : decode cX11_text 45 = .ok (.ireturn, 1) := by decide +kernel
theorem dX11_text_46 : decode cX11_text 46 = .ok (.aload_n 0, 1) := by decide +kernel
theorem dX11_text_47 : decode cX11_text 47 = .ok (.dup, 1) := by decide +kernel
theorem dX11_text_48 : decode cX11_text 48 = .ok (.getfield 92, 3) := by decide +kernel
theorem dX11_text_51 : decode cX11_text 51 = .ok (.iconst 1, 1) := by decide +kernel
theorem dX11_text_52 : decode cX11_text 52 = .ok (.iadd, 1) := by decide +kernel
theorem dX11_text_53 : decode cX11_text 53 = .ok (.putfield 92, 3) := by decide +kernel
theorem dX11_text_56 : decode cX11_text 56 = .ok (.aload_n 0, 1) := by decide +kernel
theorem dX11_text_57 : decode cX11_text 57 = .ok (.getfield 92, 3) := by decide +kernel
theorem dX11_text_60 : decode cX11_text 60 = .ok (.iconst 1, 1) := by decide +kernel
theorem dX11_text_61 : decode cX11_text 61 = .ok (.isub, 1) := by decide +kernel
theorem dX11_text_62 : decode cX11_text 62 = .ok (.ireturn, 1) := by decide +kernel
set_option maxRecDepth 100000 in
set_option maxHeartbeats 4000000 in
theorem kX11_text (l : Launch) (w : wT) (hw : yOk w 55) (σ : Hp)  (K : Int32 → Hp → Prop) (hv : VX11_text K σ ) : yMet l w xcf 55 yX11_text cX11_text 2 (some .int) 76 [.ref (w.1 0)] σ (yQi w xcf 55 K) := by
  unfold VX11_text at hv
  refine y_start (lv0 := [(0, .ref (w.1 0))]) (by decide +kernel) (own := RX11) rfl hw (Nat.le_of_ble_eq_true rfl) rfl (fun p e s m below meth c A E => ?_)
  refine y_aload_n E dX11_text_0 0 rfl ?_
  refine gf_X11_5 E (by decide) (by decide) wm_290 dX11_text_1 ?_
  refine y_bipush (v := 6) E dX11_text_4 (by decide) ?_
  refine y_icmp_lt (tgt := 12) E dX11_text_6 (by decide) (fun c1 => ?_) (fun c1 => ?_)
  · replace hv := ite_t hv c1
    refine y_aload_n E dX11_text_12 0 rfl ?_
    refine gf_X11_6 E (by decide) (by decide) wm_292 dX11_text_13 ?_
    refine y_aload_n E dX11_text_16 0 rfl ?_
    refine gf_X11_4 E (by decide) (by decide) wm_301 dX11_text_17 ?_
    refine y_aload_n E dX11_text_20 0 rfl ?_
    refine gf_X11_5 E (by decide) (by decide) wm_290 dX11_text_21 ?_
    obtain ⟨hi, hv⟩ := hv
    refine y_aald (t0 := 3) E (by decide) (xc_rtexts (by decide) (by decide)) rfl hi dX11_text_24 ?_
    refine y_nmr (fun x2 hx2 => ?_)
    replace hv := hv x2 hx2
    have hgx2 : 19 ≤ x2 ∧ x2 < 25 := by have := vp_in_lt hi; omega
    refine y_calli E (y_runV E (rest := []) (kX4_read l w E.2.2.1 σ x2 _ hv) (y_cwV 1 E.1.2.2.2.2 wm_302 wm_303 wm_304 wm_157 wm_305 (by decide +kernel) (yRm_le (by decide) (by decide))) (Nat.lt_of_lt_of_le (show 38 < 39 by decide) (by decide)) (xc_X4 (by decide) (by decide)) rfl rfl rfl (Nat.le_of_ble_eq_true rfl) dX11_text_25) (fun v3 u4 hk => ?_)
    clear hv
    have hv := hk
    clear hk
    refine y_istore_n (lv' := [(1, .int v3), (0, .ref (w.1 0))]) E dX11_text_28 (by decide) rfl ?_
    refine y_aload_n E dX11_text_29 1 rfl ?_
    refine gf_X11_6 E (by decide) (by decide) wm_292 dX11_text_30 ?_
    refine y_iconst (v := 0) E dX11_text_33 (by decide) ?_
    refine pf_X4_1 E (by decide) (by decide) wm_293 dX11_text_34 ?_
    refine y_nmH (fun u5 hu5 => ?_)
    replace hv := hv u5 hu5
    refine y_iload_n E dX11_text_37 0 rfl ?_
    refine y_if_lt (tgt := 46) E dX11_text_38 (by decide) (fun c6 => ?_) (fun c6 => ?_)
    · replace hv := ite_t hv c6
      refine y_aload_n E dX11_text_46 1 rfl ?_
      refine y_dup E dX11_text_47 rfl ?_
      refine gf_X11_5 E (by decide) (by decide) wm_290 dX11_text_48 ?_
      refine y_iconst (v := 1) E dX11_text_51 (by decide) ?_
      refine y_iadd E dX11_text_52 ?_
      refine pf_X11_5 E (by decide) (by decide) wm_290 dX11_text_53 ?_
      refine y_nmH (fun u7 hu7 => ?_)
      replace hv := hv u7 hu7
      refine y_aload_n E dX11_text_56 1 rfl ?_
      refine gf_X11_5 E (by decide) (by decide) wm_290 dX11_text_57 ?_
      refine y_iconst (v := 1) E dX11_text_60 (by decide) ?_
      refine y_isub E dX11_text_61 ?_
      exact y_iret E dX11_text_62 hv
    · replace hv := ite_f hv c6
      refine y_bipush (v := (-100)) E dX11_text_41 (by decide) ?_
      refine y_iload_n E dX11_text_43 0 rfl ?_
      refine y_isub E dX11_text_44 ?_
      exact y_iret E dX11_text_45 hv
  · replace hv := ite_f hv c1
    refine y_bipush (v := (-4)) E dX11_text_9 (by decide) ?_
    exact y_iret E dX11_text_11 hv
theorem dX11_force_0 : decode cX11_force 0 = .ok (.iload_n 1, 1) := by decide +kernel
theorem dX11_force_1 : decode cX11_force 1 = .ok (.ifCond .lt 11, 3) := by decide +kernel
theorem dX11_force_4 : decode cX11_force 4 = .ok (.iload_n 1, 1) := by decide +kernel
theorem dX11_force_5 : decode cX11_force 5 = .ok (.aload_n 0, 1) := by decide +kernel
theorem dX11_force_6 : decode cX11_force 6 = .ok (.getfield 92, 3) := by decide +kernel
theorem dX11_force_9 : decode cX11_force 9 = .ok (.if_icmp .lt 6, 3) := by decide +kernel
theorem dX11_force_12 : decode cX11_force 12 = .ok (.bipush (-2), 2) := by decide +kernel
theorem dX11_force_14 : decode cX11_force 14 = .ok (.ireturn, 1) := by decide +kernel
theorem dX11_force_15 : decode cX11_force 15 = .ok (.aload_n 0, 1) := by decide +kernel
theorem dX11_force_16 : decode cX11_force 16 = .ok (.getfield 12, 3) := by decide +kernel
theorem dX11_force_19 : decode cX11_force 19 = .ok (.getfield 134, 3) := by decide +kernel
theorem dX11_force_22 : decode cX11_force 22 = .ok (.istore_n 2, 1) := by decide +kernel
theorem dX11_force_23 : decode cX11_force 23 = .ok (.aload_n 0, 1) := by decide +kernel
theorem dX11_force_24 : decode cX11_force 24 = .ok (.getfield 12, 3) := by decide +kernel
theorem dX11_force_27 : decode cX11_force 27 = .ok (.iload_n 1, 1) := by decide +kernel
theorem dX11_force_28 : decode cX11_force 28 = .ok (.putfield 134, 3) := by decide +kernel
theorem dX11_force_31 : decode cX11_force 31 = .ok (.iload_n 2, 1) := by decide +kernel
theorem dX11_force_32 : decode cX11_force 32 = .ok (.ireturn, 1) := by decide +kernel
set_option maxRecDepth 100000 in
set_option maxHeartbeats 4000000 in
theorem kX11_force (l : Launch) (w : wT) (hw : yOk w 55) (σ : Hp) (a1 : Int32) (K : Int32 → Hp → Prop) (hv : VX11_force K σ a1) : yMet l w xcf 55 yX11_force cX11_force 3 (some .int) 1 [.ref (w.1 0), .int a1] σ (yQi w xcf 55 K) := by
  unfold VX11_force at hv
  refine y_start (lv0 := [(0, .ref (w.1 0)), (1, .int a1)]) (by decide +kernel) (own := RX11) rfl hw (Nat.le_of_ble_eq_true rfl) rfl (fun p e s m below meth c A E => ?_)
  refine y_iload_n E dX11_force_0 1 rfl ?_
  refine y_if_lt (tgt := 12) E dX11_force_1 (by decide) (fun c1 => ?_) (fun c1 => ?_)
  · replace hv := ite_t hv c1
    refine y_bipush (v := (-2)) E dX11_force_12 (by decide) ?_
    exact y_iret E dX11_force_14 hv
  · replace hv := ite_f hv c1
    refine y_iload_n E dX11_force_4 1 rfl ?_
    refine y_aload_n E dX11_force_5 0 rfl ?_
    refine gf_X11_5 E (by decide) (by decide) wm_290 dX11_force_6 ?_
    refine y_icmp_lt (tgt := 15) E dX11_force_9 (by decide) (fun c2 => ?_) (fun c2 => ?_)
    · replace hv := ite_t hv c2
      refine y_aload_n E dX11_force_15 0 rfl ?_
      refine gf_X11_0 E (by decide) (by decide) wm_272 dX11_force_16 ?_
      refine gf_X3_4 E (by decide) (by decide) wm_291 dX11_force_19 ?_
      refine y_nmi (fun x3 hx3 => ?_)
      replace hv := hv x3 hx3
      refine y_istore_n (lv' := [(2, .int x3), (0, .ref (w.1 0)), (1, .int a1)]) E dX11_force_22 (by decide) rfl ?_
      refine y_aload_n E dX11_force_23 1 rfl ?_
      refine gf_X11_0 E (by decide) (by decide) wm_272 dX11_force_24 ?_
      refine y_iload_n E dX11_force_27 2 rfl ?_
      refine pf_X3_4 E (by decide) (by decide) wm_291 dX11_force_28 ?_
      refine y_nmH (fun u4 hu4 => ?_)
      replace hv := hv u4 hu4
      refine y_iload_n E dX11_force_31 0 rfl ?_
      exact y_iret E dX11_force_32 hv
    · replace hv := ite_f hv c2
      refine y_bipush (v := (-2)) E dX11_force_12 (by decide) ?_
      exact y_iret E dX11_force_14 hv
theorem dX11_law_0 : decode cX11_law 0 = .ok (.aload_n 0, 1) := by decide +kernel
theorem dX11_law_1 : decode cX11_law 1 = .ok (.getfield 27, 3) := by decide +kernel
theorem dX11_law_4 : decode cX11_law 4 = .ok (.aload_n 0, 1) := by decide +kernel
theorem dX11_law_5 : decode cX11_law 5 = .ok (.getfield 12, 3) := by decide +kernel
theorem dX11_law_8 : decode cX11_law 8 = .ok (.getfield 134, 3) := by decide +kernel
theorem dX11_law_11 : decode cX11_law 11 = .ok (.aaload, 1) := by decide +kernel
theorem dX11_law_12 : decode cX11_law 12 = .ok (.areturn, 1) := by decide +kernel
set_option maxRecDepth 100000 in
set_option maxHeartbeats 4000000 in
theorem kX11_law (l : Launch) (w : wT) (hw : yOk w 55) (σ : Hp)  (K : Nat → Hp → Prop) (hv : VX11_law K σ ) : yMet l w xcf 55 yX11_law cX11_law 1 (some (.object "WhereTheSpoonWent$Text")) 1 [.ref (w.1 0)] σ (yQr w xcf 55 K) := by
  unfold VX11_law at hv
  refine y_start (lv0 := [(0, .ref (w.1 0))]) (by decide +kernel) (own := RX11) rfl hw (Nat.le_of_ble_eq_true rfl) rfl (fun p e s m below meth c A E => ?_)
  refine y_aload_n E dX11_law_0 0 rfl ?_
  refine gf_X11_4 E (by decide) (by decide) wm_301 dX11_law_1 ?_
  refine y_aload_n E dX11_law_4 0 rfl ?_
  refine gf_X11_0 E (by decide) (by decide) wm_272 dX11_law_5 ?_
  refine gf_X3_4 E (by decide) (by decide) wm_291 dX11_law_8 ?_
  obtain ⟨hi, hv⟩ := hv
  refine y_aald (t0 := 3) E (by decide) (xc_rtexts (by decide) (by decide)) rfl hi dX11_law_11 ?_
  refine y_nmr (fun x1 hx1 => ?_)
  replace hv := hv x1 hx1
  have hgx1 : 19 ≤ x1 ∧ x1 < 25 := by have := vp_in_lt hi; omega
  exact y_aret E dX11_law_12 hv
theorem dX11_asks_0 : decode cX11_asks 0 = .ok (.iload_n 1, 1) := by decide +kernel
theorem dX11_asks_1 : decode cX11_asks 1 = .ok (.ifCond .lt 22, 3) := by decide +kernel
theorem dX11_asks_4 : decode cX11_asks 4 = .ok (.iload_n 1, 1) := by decide +kernel
theorem dX11_asks_5 : decode cX11_asks 5 = .ok (.iconst 3, 1) := by decide +kernel
theorem dX11_asks_6 : decode cX11_asks 6 = .ok (.if_icmp .ge 17, 3) := by decide +kernel
theorem dX11_asks_9 : decode cX11_asks 9 = .ok (.iload_n 2, 1) := by decide +kernel
theorem dX11_asks_10 : decode cX11_asks 10 = .ok (.invokestatic 97, 3) := by decide +kernel
theorem dX11_asks_13 : decode cX11_asks 13 = .ok (.ifCond .eq 10, 3) := by decide +kernel
theorem dX11_asks_16 : decode cX11_asks 16 = .ok (.iload_n 3, 1) := by decide +kernel
theorem dX11_asks_17 : decode cX11_asks 17 = .ok (.invokestatic 116, 3) := by decide +kernel
theorem dX11_asks_20 : decode cX11_asks 20 = .ok (.ifCond .ne 6, 3) := by decide +kernel
theorem dX11_asks_23 : decode cX11_asks 23 = .ok (.bipush (-2), 2) := by decide +kernel
theorem dX11_asks_25 : decode cX11_asks 25 = .ok (.ireturn, 1) := by decide +kernel
theorem dX11_asks_26 : decode cX11_asks 26 = .ok (.iload 4, 2) := by decide +kernel
theorem dX11_asks_28 : decode cX11_asks 28 = .ok (.ifCond .lt 10, 3) := by decide +kernel
theorem dX11_asks_31 : decode cX11_asks 31 = .ok (.iload 4, 2) := by decide +kernel
theorem dX11_asks_33 : decode cX11_asks 33 = .ok (.bipush 99, 2) := by decide +kernel
theorem dX11_asks_35 : decode cX11_asks 35 = .ok (.if_icmp .le 6, 3) := by decide +kernel
theorem dX11_asks_38 : decode cX11_asks 38 = .ok (.bipush (-2), 2) := by decide +kernel
theorem dX11_asks_40 : decode cX11_asks 40 = .ok (.ireturn, 1) := by decide +kernel
theorem dX11_asks_41 : decode cX11_asks 41 = .ok (.aload_n 0, 1) := by decide +kernel
theorem dX11_asks_42 : decode cX11_asks 42 = .ok (.invokevirtual 151, 3) := by decide +kernel
theorem dX11_asks_45 : decode cX11_asks 45 = .ok (.iload_n 1, 1) := by decide +kernel
theorem dX11_asks_46 : decode cX11_asks 46 = .ok (.iload_n 2, 1) := by decide +kernel
theorem dX11_asks_47 : decode cX11_asks 47 = .ok (.iload_n 3, 1) := by decide +kernel
theorem dX11_asks_48 : decode cX11_asks 48 = .ok (.iload 4, 2) := by decide +kernel
theorem dX11_asks_50 : decode cX11_asks 50 = .ok (.bipush 10, 2) := by decide +kernel
theorem dX11_asks_52 : decode cX11_asks 52 = .ok (.idiv, 1) := by decide +kernel
theorem dX11_asks_53 : decode cX11_asks 53 = .ok (.iload 4, 2) := by decide +kernel
theorem dX11_asks_55 : decode cX11_asks 55 = .ok (.bipush 10, 2) := by decide +kernel
theorem dX11_asks_57 : decode cX11_asks 57 = .ok (.irem, 1) := by decide +kernel
theorem dX11_asks_58 : decode cX11_asks 58 = .ok (.invokevirtual 154, 3) := by decide +kernel
theorem dX11_asks_61 : decode cX11_asks 61 = .ok (.ireturn, 1) := by decide +kernel
set_option maxRecDepth 100000 in
set_option maxHeartbeats 4000000 in
theorem kX11_asks (l : Launch) (w : wT) (hw : yOk w 55) (σ : Hp) (a1 : Int32) (a2 : Int32) (a3 : Int32) (a4 : Int32) (K : Int32 → Hp → Prop) (hv : VX11_asks K σ a1 a2 a3 a4) : yMet l w xcf 55 yX11_asks cX11_asks 5 (some .int) 3 [.ref (w.1 0), .int a1, .int a2, .int a3, .int a4] σ (yQi w xcf 55 K) := by
  unfold VX11_asks at hv
  refine y_start (lv0 := [(0, .ref (w.1 0)), (1, .int a1), (2, .int a2), (3, .int a3), (4, .int a4)]) (by decide +kernel) (own := RX11) rfl hw (Nat.le_of_ble_eq_true rfl) rfl (fun p e s m below meth c A E => ?_)
  refine y_iload_n E dX11_asks_0 1 rfl ?_
  refine y_if_lt (tgt := 23) E dX11_asks_1 (by decide) (fun c1 => ?_) (fun c1 => ?_)
  · replace hv := ite_t hv c1
    refine y_bipush (v := (-2)) E dX11_asks_23 (by decide) ?_
    exact y_iret E dX11_asks_25 hv
  · replace hv := ite_f hv c1
    refine y_iload_n E dX11_asks_4 1 rfl ?_
    refine y_iconst (v := 3) E dX11_asks_5 (by decide) ?_
    refine y_icmp_ge (tgt := 23) E dX11_asks_6 (by decide) (fun c2 => ?_) (fun c2 => ?_)
    · replace hv := ite_t hv c2
      refine y_bipush (v := (-2)) E dX11_asks_23 (by decide) ?_
      exact y_iret E dX11_asks_25 hv
    · replace hv := ite_f hv c2
      refine y_iload_n E dX11_asks_9 2 rfl ?_
      refine y_calli E (y_runS E (rest := []) (kX11_isCell l w E.2.2.1 σ a2 _ hv) (y_cwS 1 E.1.2.2.2.2 wm_265 wm_270 wm_116 wm_271 (by decide +kernel) (yRm_le (by decide) (by decide))) rfl rfl (Nat.le_of_ble_eq_true rfl) dX11_asks_10) (fun v3 u4 hk => ?_)
      clear hv
      have hv := hk
      clear hk
      refine y_if_eq (tgt := 23) E dX11_asks_13 (by decide) (fun c5 => ?_) (fun c5 => ?_)
      · replace hv := ite_t hv c5
        refine y_bipush (v := (-2)) E dX11_asks_23 (by decide) ?_
        exact y_iret E dX11_asks_25 hv
      · replace hv := ite_f hv c5
        refine y_iload_n E dX11_asks_16 3 rfl ?_
        refine y_calli E (y_runS E (rest := []) (kX11_isStep l w E.2.2.1 u4 a3 _ hv) (y_cwS 1 E.1.2.2.2.2 wm_282 wm_284 wm_116 wm_285 (by decide +kernel) (yRm_le (by decide) (by decide))) rfl rfl (Nat.le_of_ble_eq_true rfl) dX11_asks_17) (fun v6 u7 hk => ?_)
        clear hv
        have hv := hk
        clear hk
        refine y_if_ne (tgt := 26) E dX11_asks_20 (by decide) (fun c8 => ?_) (fun c8 => ?_)
        · replace hv := ite_f hv c8
          refine y_iload E dX11_asks_26 4 rfl ?_
          refine y_if_lt (tgt := 38) E dX11_asks_28 (by decide) (fun c9 => ?_) (fun c9 => ?_)
          · replace hv := ite_t hv c9
            refine y_bipush (v := (-2)) E dX11_asks_38 (by decide) ?_
            exact y_iret E dX11_asks_40 hv
          · replace hv := ite_f hv c9
            refine y_iload E dX11_asks_31 4 rfl ?_
            refine y_bipush (v := 99) E dX11_asks_33 (by decide) ?_
            refine y_icmp_le (tgt := 41) E dX11_asks_35 (by decide) (fun c10 => ?_) (fun c10 => ?_)
            · replace hv := ite_t hv c10
              refine y_aload_n E dX11_asks_41 0 rfl ?_
              refine y_callr E (y_runV E (rest := []) (kX11_law l w E.2.2.1 u7 _ hv) (y_cwV 0 E.1.2.2.2.2 wm_306 wm_308 wm_309 wm_116 wm_310 (by decide +kernel) (yRm_le (by decide) (by decide))) (Nat.lt_of_lt_of_le (show 0 < 1 by decide) (by decide)) (xc_X11 (by decide) (by decide)) rfl rfl rfl (Nat.le_of_ble_eq_true rfl) dX11_asks_42) (fun v11 u12 hk => ?_)
              clear hv
              have hv := hk
              clear hk
              obtain ⟨hgv11, hv⟩ := hv
              refine y_iload_n E dX11_asks_45 1 rfl ?_
              refine y_iload_n E dX11_asks_46 2 rfl ?_
              refine y_iload_n E dX11_asks_47 3 rfl ?_
              refine y_iload E dX11_asks_48 4 rfl ?_
              refine y_bipush (v := 10) E dX11_asks_50 (by decide) ?_
              refine y_idiv E dX11_asks_52 (by decide) ?_
              refine y_iload E dX11_asks_53 4 rfl ?_
              refine y_bipush (v := 10) E dX11_asks_55 (by decide) ?_
              refine y_irem E dX11_asks_57 (by decide) ?_
              refine y_calli E (y_runV E (rest := []) (kX9_says l w E.2.2.1 u12 v11 a1 a2 a3 (a4 / 10) (jrem a4 10) _ hv) (y_cwV 5 E.1.2.2.2.2 wm_307 wm_111 wm_112 wm_113 wm_114 (by decide +kernel) (yRm_le (by decide) (by decide))) (Nat.lt_of_lt_of_le hgv11.2 (by decide)) (xc_X9 hgv11.1 hgv11.2) rfl rfl rfl (Nat.le_of_ble_eq_true rfl) dX11_asks_58) (fun v13 u14 hk => ?_)
              clear hv
              have hv := hk
              clear hk
              exact y_iret E dX11_asks_61 hv
            · replace hv := ite_f hv c10
              refine y_bipush (v := (-2)) E dX11_asks_38 (by decide) ?_
              exact y_iret E dX11_asks_40 hv
        · replace hv := ite_t hv c8
          refine y_bipush (v := (-2)) E dX11_asks_23 (by decide) ?_
          exact y_iret E dX11_asks_25 hv
theorem dX11_isOpen_0 : decode cX11_isOpen 0 = .ok (.iload_n 1, 1) := by decide +kernel
theorem dX11_isOpen_1 : decode cX11_isOpen 1 = .ok (.invokestatic 97, 3) := by decide +kernel
theorem dX11_isOpen_4 : decode cX11_isOpen 4 = .ok (.ifCond .eq 21, 3) := by decide +kernel
theorem dX11_isOpen_7 : decode cX11_isOpen 7 = .ok (.aload_n 0, 1) := by decide +kernel
theorem dX11_isOpen_8 : decode cX11_isOpen 8 = .ok (.getfield 12, 3) := by decide +kernel
theorem dX11_isOpen_11 : decode cX11_isOpen 11 = .ok (.getfield 125, 3) := by decide +kernel
theorem dX11_isOpen_14 : decode cX11_isOpen 14 = .ok (.iload_n 1, 1) := by decide +kernel
theorem dX11_isOpen_15 : decode cX11_isOpen 15 = .ok (.invokestatic 108, 3) := by decide +kernel
theorem dX11_isOpen_18 : decode cX11_isOpen 18 = .ok (.ifCond .ne 7, 3) := by decide +kernel
theorem dX11_isOpen_21 : decode cX11_isOpen 21 = .ok (.iconst 1, 1) := by decide +kernel
theorem dX11_isOpen_22 : decode cX11_isOpen 22 = .ok (.goto 4, 3) := by decide +kernel
theorem dX11_isOpen_25 : decode cX11_isOpen 25 = .ok (.iconst 0, 1) := by decide +kernel
theorem dX11_isOpen_26 : decode cX11_isOpen 26 = .ok (.ireturn, 1) := by decide +kernel
set_option maxRecDepth 100000 in
set_option maxHeartbeats 4000000 in
theorem kX11_isOpen (l : Launch) (w : wT) (hw : yOk w 55) (σ : Hp) (a1 : Int32) (K : Int32 → Hp → Prop) (hv : VX11_isOpen K σ a1) : yMet l w xcf 55 yX11_isOpen cX11_isOpen 2 (some .boolean) 2 [.ref (w.1 0), .int a1] σ (yQi w xcf 55 K) := by
  unfold VX11_isOpen at hv
  refine y_start (lv0 := [(0, .ref (w.1 0)), (1, .int a1)]) (by decide +kernel) (own := RX11) rfl hw (Nat.le_of_ble_eq_true rfl) rfl (fun p e s m below meth c A E => ?_)
  refine y_iload_n E dX11_isOpen_0 1 rfl ?_
  refine y_calli E (y_runS E (rest := []) (kX11_isCell l w E.2.2.1 σ a1 _ hv) (y_cwS 1 E.1.2.2.2.2 wm_265 wm_270 wm_116 wm_271 (by decide +kernel) (yRm_le (by decide) (by decide))) rfl rfl (Nat.le_of_ble_eq_true rfl) dX11_isOpen_1) (fun v1 u2 hk => ?_)
  clear hv
  have hv := hk
  clear hk
  refine y_if_eq (tgt := 25) E dX11_isOpen_4 (by decide) (fun c3 => ?_) (fun c3 => ?_)
  · replace hv := ite_t hv c3
    refine y_iconst (v := 0) E dX11_isOpen_25 (by decide) ?_
    exact y_nret E dX11_isOpen_26 (by decide) hv
  · replace hv := ite_f hv c3
    refine y_aload_n E dX11_isOpen_7 0 rfl ?_
    refine gf_X11_0 E (by decide) (by decide) wm_272 dX11_isOpen_8 ?_
    refine gf_X3_0 E (by decide) (by decide) wm_287 dX11_isOpen_11 ?_
    refine y_iload_n E dX11_isOpen_14 1 rfl ?_
    refine y_calli E (y_runS E (rest := []) (kX11_has l w E.2.2.1 u2 (u2 1 0) a1 _ hv) (y_cwS 2 E.1.2.2.2.2 wm_274 wm_115 wm_116 wm_117 (by decide +kernel) (yRm_le (by decide) (by decide))) rfl rfl (Nat.le_of_ble_eq_true rfl) dX11_isOpen_15) (fun v4 u5 hk => ?_)
    clear hv
    have hv := hk
    clear hk
    refine y_if_ne (tgt := 25) E dX11_isOpen_18 (by decide) (fun c6 => ?_) (fun c6 => ?_)
    · replace hv := ite_f hv c6
      refine y_iconst (v := 0) E dX11_isOpen_25 (by decide) ?_
      exact y_nret E dX11_isOpen_26 (by decide) hv
    · replace hv := ite_t hv c6
      refine y_iconst (v := 1) E dX11_isOpen_21 (by decide) ?_
      refine y_goto (tgt := 26) E dX11_isOpen_22 (by decide) ?_
      exact y_nret E dX11_isOpen_26 (by decide) hv
theorem dX11_isWay_0 : decode cX11_isWay 0 = .ok (.iload_n 0, 1) := by decide +kernel
theorem dX11_isWay_1 : decode cX11_isWay 1 = .ok (.ifCond .lt 12, 3) := by decide +kernel
theorem dX11_isWay_4 : decode cX11_isWay 4 = .ok (.iload_n 0, 1) := by decide +kernel
theorem dX11_isWay_5 : decode cX11_isWay 5 = .ok (.iconst 5, 1) := by decide +kernel
theorem dX11_isWay_6 : decode cX11_isWay 6 = .ok (.if_icmp .ge 7, 3) := by decide +kernel
theorem dX11_isWay_9 : decode cX11_isWay 9 = .ok (.iconst 1, 1) := by decide +kernel
theorem dX11_isWay_10 : decode cX11_isWay 10 = .ok (.goto 4, 3) := by decide +kernel
theorem dX11_isWay_13 : decode cX11_isWay 13 = .ok (.iconst 0, 1) := by decide +kernel
theorem dX11_isWay_14 : decode cX11_isWay 14 = .ok (.ireturn, 1) := by decide +kernel
set_option maxRecDepth 100000 in
set_option maxHeartbeats 4000000 in
theorem kX11_isWay (l : Launch) (w : wT) (hw : yOk w 55) (σ : Hp) (a1 : Int32) (K : Int32 → Hp → Prop) (hv : VX11_isWay K σ a1) : yMet l w xcf 55 yX11_isWay cX11_isWay 1 (some .boolean) 1 [.int a1] σ (yQi w xcf 55 K) := by
  unfold VX11_isWay at hv
  refine y_start (lv0 := [(0, .int a1)]) (by decide +kernel) (own := RX11) rfl hw (Nat.le_of_ble_eq_true rfl) rfl (fun p e s m below meth c A E => ?_)
  refine y_iload_n E dX11_isWay_0 0 rfl ?_
  refine y_if_lt (tgt := 13) E dX11_isWay_1 (by decide) (fun c1 => ?_) (fun c1 => ?_)
  · replace hv := ite_t hv c1
    refine y_iconst (v := 0) E dX11_isWay_13 (by decide) ?_
    exact y_nret E dX11_isWay_14 (by decide) hv
  · replace hv := ite_f hv c1
    refine y_iload_n E dX11_isWay_4 0 rfl ?_
    refine y_iconst (v := 5) E dX11_isWay_5 (by decide) ?_
    refine y_icmp_ge (tgt := 13) E dX11_isWay_6 (by decide) (fun c2 => ?_) (fun c2 => ?_)
    · replace hv := ite_t hv c2
      refine y_iconst (v := 0) E dX11_isWay_13 (by decide) ?_
      exact y_nret E dX11_isWay_14 (by decide) hv
    · replace hv := ite_f hv c2
      refine y_iconst (v := 1) E dX11_isWay_9 (by decide) ?_
      refine y_goto (tgt := 14) E dX11_isWay_10 (by decide) ?_
      exact y_nret E dX11_isWay_14 (by decide) hv
theorem dX11_thing_0 : decode cX11_thing 0 = .ok (.iload_n 1, 1) := by decide +kernel
theorem dX11_thing_1 : decode cX11_thing 1 = .ok (.ifCond .lt 24, 3) := by decide +kernel
theorem dX11_thing_4 : decode cX11_thing 4 = .ok (.iload_n 1, 1) := by decide +kernel
theorem dX11_thing_5 : decode cX11_thing 5 = .ok (.bipush 60, 2) := by decide +kernel
theorem dX11_thing_7 : decode cX11_thing 7 = .ok (.if_icmp .ge 18, 3) := by decide +kernel
theorem dX11_thing_10 : decode cX11_thing 10 = .ok (.aload_n 0, 1) := by decide +kernel
theorem dX11_thing_11 : decode cX11_thing 11 = .ok (.iload_n 2, 1) := by decide +kernel
theorem dX11_thing_12 : decode cX11_thing 12 = .ok (.invokevirtual 158, 3) := by decide +kernel
theorem dX11_thing_15 : decode cX11_thing 15 = .ok (.ifCond .eq 10, 3) := by decide +kernel
theorem dX11_thing_18 : decode cX11_thing 18 = .ok (.iload_n 3, 1) := by decide +kernel
theorem dX11_thing_19 : decode cX11_thing 19 = .ok (.invokestatic 161, 3) := by decide +kernel
theorem dX11_thing_22 : decode cX11_thing 22 = .ok (.ifCond .ne 6, 3) := by decide +kernel
theorem dX11_thing_25 : decode cX11_thing 25 = .ok (.bipush (-2), 2) := by decide +kernel
theorem dX11_thing_27 : decode cX11_thing 27 = .ok (.ireturn, 1) := by decide +kernel
theorem dX11_thing_28 : decode cX11_thing 28 = .ok (.aload_n 0, 1) := by decide +kernel
theorem dX11_thing_29 : decode cX11_thing 29 = .ok (.getfield 12, 3) := by decide +kernel
theorem dX11_thing_32 : decode cX11_thing 32 = .ok (.getfield 122, 3) := by decide +kernel
theorem dX11_thing_35 : decode cX11_thing 35 = .ok (.istore 4, 2) := by decide +kernel
theorem dX11_thing_37 : decode cX11_thing 37 = .ok (.iload 4, 2) := by decide +kernel
theorem dX11_thing_39 : decode cX11_thing 39 = .ok (.iconst 5, 1) := by decide +kernel
theorem dX11_thing_40 : decode cX11_thing 40 = .ok (.if_icmp .lt 6, 3) := by decide +kernel
theorem dX11_thing_43 : decode cX11_thing 43 = .ok (.bipush (-4), 2) := by decide +kernel
theorem dX11_thing_45 : decode cX11_thing 45 = .ok (.ireturn, 1) := by decide +kernel
theorem dX11_thing_46 : decode cX11_thing 46 = .ok (.aload_n 0, 1) := by decide +kernel
theorem dX11_thing_47 : decode cX11_thing 47 = .ok (.getfield 12, 3) := by decide +kernel
theorem dX11_thing_50 : decode cX11_thing 50 = .ok (.getfield 164, 3) := by decide +kernel
theorem dX11_thing_53 : decode cX11_thing 53 = .ok (.iload 4, 2) := by decide +kernel
theorem dX11_thing_55 : decode cX11_thing 55 = .ok (.iload_n 1, 1) := by decide +kernel
theorem dX11_thing_56 : decode cX11_thing 56 = .ok (.bipush 10, 2) := by decide +kernel
theorem dX11_thing_58 : decode cX11_thing 58 = .ok (.idiv, 1) := by decide +kernel
theorem dX11_thing_59 : decode cX11_thing 59 = .ok (.iastore, 1) := by decide +kernel
theorem dX11_thing_60 : decode cX11_thing 60 = .ok (.aload_n 0, 1) := by decide +kernel
theorem dX11_thing_61 : decode cX11_thing 61 = .ok (.getfield 12, 3) := by decide +kernel
theorem dX11_thing_64 : decode cX11_thing 64 = .ok (.getfield 166, 3) := by decide +kernel
theorem dX11_thing_67 : decode cX11_thing 67 = .ok (.iload 4, 2) := by decide +kernel
theorem dX11_thing_69 : decode cX11_thing 69 = .ok (.iload_n 1, 1) := by decide +kernel
theorem dX11_thing_70 : decode cX11_thing 70 = .ok (.bipush 10, 2) := by decide +kernel
theorem dX11_thing_72 : decode cX11_thing 72 = .ok (.irem, 1) := by decide +kernel
theorem dX11_thing_73 : decode cX11_thing 73 = .ok (.iastore, 1) := by decide +kernel
theorem dX11_thing_74 : decode cX11_thing 74 = .ok (.aload_n 0, 1) := by decide +kernel
theorem dX11_thing_75 : decode cX11_thing 75 = .ok (.getfield 12, 3) := by decide +kernel
theorem dX11_thing_78 : decode cX11_thing 78 = .ok (.getfield 169, 3) := by decide +kernel
theorem dX11_thing_81 : decode cX11_thing 81 = .ok (.iload 4, 2) := by decide +kernel
theorem dX11_thing_83 : decode cX11_thing 83 = .ok (.iload_n 2, 1) := by decide +kernel
theorem dX11_thing_84 : decode cX11_thing 84 = .ok (.iastore, 1) := by decide +kernel
theorem dX11_thing_85 : decode cX11_thing 85 = .ok (.aload_n 0, 1) := by decide +kernel
theorem dX11_thing_86 : decode cX11_thing 86 = .ok (.getfield 12, 3) := by decide +kernel
theorem dX11_thing_89 : decode cX11_thing 89 = .ok (.getfield 172, 3) := by decide +kernel
theorem dX11_thing_92 : decode cX11_thing 92 = .ok (.iload 4, 2) := by decide +kernel
theorem dX11_thing_94 : decode cX11_thing 94 = .ok (.iload_n 3, 1) := by decide +kernel
theorem dX11_thing_95 : decode cX11_thing 95 = .ok (.iastore, 1) := by decide +kernel
theorem dX11_thing_96 : decode cX11_thing 96 = .ok (.aload_n 0, 1) := by decide +kernel
theorem dX11_thing_97 : decode cX11_thing 97 = .ok (.getfield 12, 3) := by decide +kernel
theorem dX11_thing_100 : decode cX11_thing 100 = .ok (.iload 4, 2) := by decide +kernel
theorem dX11_thing_102 : decode cX11_thing 102 = .ok (.iconst 1, 1) := by decide +kernel
theorem dX11_thing_103 : decode cX11_thing 103 = .ok (.iadd, 1) := by decide +kernel
theorem dX11_thing_104 : decode cX11_thing 104 = .ok (.putfield 122, 3) := by decide +kernel
theorem dX11_thing_107 : decode cX11_thing 107 = .ok (.iload 4, 2) := by decide +kernel
theorem dX11_thing_109 : decode cX11_thing 109 = .ok (.ireturn, 1) := by decide +kernel
set_option maxRecDepth 100000 in
set_option maxHeartbeats 4000000 in
theorem kX11_thing (l : Launch) (w : wT) (hw : yOk w 55) (σ : Hp) (a1 : Int32) (a2 : Int32) (a3 : Int32) (K : Int32 → Hp → Prop) (hv : VX11_thing K σ a1 a2 a3) : yMet l w xcf 55 yX11_thing cX11_thing 5 (some .int) 3 [.ref (w.1 0), .int a1, .int a2, .int a3] σ (yQi w xcf 55 K) := by
  unfold VX11_thing at hv
  refine y_start (lv0 := [(0, .ref (w.1 0)), (1, .int a1), (2, .int a2), (3, .int a3)]) (by decide +kernel) (own := RX11) rfl hw (Nat.le_of_ble_eq_true rfl) rfl (fun p e s m below meth c A E => ?_)
  refine y_iload_n E dX11_thing_0 1 rfl ?_
  refine y_if_lt (tgt := 25) E dX11_thing_1 (by decide) (fun c1 => ?_) (fun c1 => ?_)
  · replace hv := ite_t hv c1
    refine y_bipush (v := (-2)) E dX11_thing_25 (by decide) ?_
    exact y_iret E dX11_thing_27 hv
  · replace hv := ite_f hv c1
    refine y_iload_n E dX11_thing_4 1 rfl ?_
    refine y_bipush (v := 60) E dX11_thing_5 (by decide) ?_
    refine y_icmp_ge (tgt := 25) E dX11_thing_7 (by decide) (fun c2 => ?_) (fun c2 => ?_)
    · replace hv := ite_t hv c2
      refine y_bipush (v := (-2)) E dX11_thing_25 (by decide) ?_
      exact y_iret E dX11_thing_27 hv
    · replace hv := ite_f hv c2
      refine y_aload_n E dX11_thing_10 0 rfl ?_
      refine y_iload_n E dX11_thing_11 2 rfl ?_
      refine y_calli E (y_runV E (rest := []) (kX11_isOpen l w E.2.2.1 σ a2 _ hv) (y_cwV 1 E.1.2.2.2.2 wm_311 wm_319 wm_320 wm_116 wm_321 (by decide +kernel) (yRm_le (by decide) (by decide))) (Nat.lt_of_lt_of_le (show 0 < 1 by decide) (by decide)) (xc_X11 (by decide) (by decide)) rfl rfl rfl (Nat.le_of_ble_eq_true rfl) dX11_thing_12) (fun v3 u4 hk => ?_)
      clear hv
      have hv := hk
      clear hk
      refine y_if_eq (tgt := 25) E dX11_thing_15 (by decide) (fun c5 => ?_) (fun c5 => ?_)
      · replace hv := ite_t hv c5
        refine y_bipush (v := (-2)) E dX11_thing_25 (by decide) ?_
        exact y_iret E dX11_thing_27 hv
      · replace hv := ite_f hv c5
        refine y_iload_n E dX11_thing_18 3 rfl ?_
        refine y_calli E (y_runS E (rest := []) (kX11_isWay l w E.2.2.1 u4 a3 _ hv) (y_cwS 1 E.1.2.2.2.2 wm_312 wm_317 wm_116 wm_318 (by decide +kernel) (yRm_le (by decide) (by decide))) rfl rfl (Nat.le_of_ble_eq_true rfl) dX11_thing_19) (fun v6 u7 hk => ?_)
        clear hv
        have hv := hk
        clear hk
        refine y_if_ne (tgt := 28) E dX11_thing_22 (by decide) (fun c8 => ?_) (fun c8 => ?_)
        · replace hv := ite_f hv c8
          refine y_aload_n E dX11_thing_28 0 rfl ?_
          refine gf_X11_0 E (by decide) (by decide) wm_272 dX11_thing_29 ?_
          refine gf_X3_5 E (by decide) (by decide) wm_286 dX11_thing_32 ?_
          refine y_nmi (fun x9 hx9 => ?_)
          replace hv := hv x9 hx9
          refine y_istore (lv' := [(4, .int x9), (0, .ref (w.1 0)), (1, .int a1), (2, .int a2), (3, .int a3)]) E dX11_thing_35 (by decide) rfl ?_
          refine y_iload E dX11_thing_37 0 rfl ?_
          refine y_iconst (v := 5) E dX11_thing_39 (by decide) ?_
          refine y_icmp_lt (tgt := 46) E dX11_thing_40 (by decide) (fun c10 => ?_) (fun c10 => ?_)
          · replace hv := ite_t hv c10
            refine y_aload_n E dX11_thing_46 1 rfl ?_
            refine gf_X11_0 E (by decide) (by decide) wm_272 dX11_thing_47 ?_
            refine gf_X3_6 (q := 3) E (by decide) (by decide) rfl wm_313 dX11_thing_50 ?_
            refine y_iload E dX11_thing_53 0 rfl ?_
            refine y_iload_n E dX11_thing_55 2 rfl ?_
            refine y_bipush (v := 10) E dX11_thing_56 (by decide) ?_
            refine y_idiv E dX11_thing_58 (by decide) ?_
            obtain ⟨hi, hv⟩ := hv
            refine y_iast E (Nat.lt_of_lt_of_le (show 3 < 11 by decide) (by decide)) (fun _ => xc_harr (by decide) (by decide)) hi dX11_thing_59 ?_
            refine y_nmH (fun u11 hu11 => ?_)
            replace hv := hv u11 hu11
            refine y_aload_n E dX11_thing_60 1 rfl ?_
            refine gf_X11_0 E (by decide) (by decide) wm_272 dX11_thing_61 ?_
            refine gf_X3_7 (q := 4) E (by decide) (by decide) rfl wm_314 dX11_thing_64 ?_
            refine y_iload E dX11_thing_67 0 rfl ?_
            refine y_iload_n E dX11_thing_69 2 rfl ?_
            refine y_bipush (v := 10) E dX11_thing_70 (by decide) ?_
            refine y_irem E dX11_thing_72 (by decide) ?_
            obtain ⟨hi, hv⟩ := hv
            refine y_iast E (Nat.lt_of_lt_of_le (show 4 < 11 by decide) (by decide)) (fun _ => xc_harr (by decide) (by decide)) hi dX11_thing_73 ?_
            refine y_nmH (fun u12 hu12 => ?_)
            replace hv := hv u12 hu12
            refine y_aload_n E dX11_thing_74 1 rfl ?_
            refine gf_X11_0 E (by decide) (by decide) wm_272 dX11_thing_75 ?_
            refine gf_X3_8 (q := 5) E (by decide) (by decide) rfl wm_315 dX11_thing_78 ?_
            refine y_iload E dX11_thing_81 0 rfl ?_
            refine y_iload_n E dX11_thing_83 3 rfl ?_
            obtain ⟨hi, hv⟩ := hv
            refine y_iast E (Nat.lt_of_lt_of_le (show 5 < 11 by decide) (by decide)) (fun _ => xc_harr (by decide) (by decide)) hi dX11_thing_84 ?_
            refine y_nmH (fun u13 hu13 => ?_)
            replace hv := hv u13 hu13
            refine y_aload_n E dX11_thing_85 1 rfl ?_
            refine gf_X11_0 E (by decide) (by decide) wm_272 dX11_thing_86 ?_
            refine gf_X3_9 (q := 6) E (by decide) (by decide) rfl wm_316 dX11_thing_89 ?_
            refine y_iload E dX11_thing_92 0 rfl ?_
            refine y_iload_n E dX11_thing_94 4 rfl ?_
            obtain ⟨hi, hv⟩ := hv
            refine y_iast E (Nat.lt_of_lt_of_le (show 6 < 11 by decide) (by decide)) (fun _ => xc_harr (by decide) (by decide)) hi dX11_thing_95 ?_
            refine y_nmH (fun u14 hu14 => ?_)
            replace hv := hv u14 hu14
            refine y_aload_n E dX11_thing_96 1 rfl ?_
            refine gf_X11_0 E (by decide) (by decide) wm_272 dX11_thing_97 ?_
            refine y_iload E dX11_thing_100 0 rfl ?_
            refine y_iconst (v := 1) E dX11_thing_102 (by decide) ?_
            refine y_iadd E dX11_thing_103 ?_
            refine pf_X3_5 E (by decide) (by decide) wm_286 dX11_thing_104 ?_
            refine y_nmH (fun u15 hu15 => ?_)
            replace hv := hv u15 hu15
            refine y_iload E dX11_thing_107 0 rfl ?_
            exact y_iret E dX11_thing_109 hv
          · replace hv := ite_f hv c10
            refine y_bipush (v := (-4)) E dX11_thing_43 (by decide) ?_
            exact y_iret E dX11_thing_45 hv
        · replace hv := ite_t hv c8
          refine y_bipush (v := (-2)) E dX11_thing_25 (by decide) ?_
          exact y_iret E dX11_thing_27 hv
theorem dX11_isThing_0 : decode cX11_isThing 0 = .ok (.iload_n 1, 1) := by decide +kernel
theorem dX11_isThing_1 : decode cX11_isThing 1 = .ok (.ifCond .lt 18, 3) := by decide +kernel
theorem dX11_isThing_4 : decode cX11_isThing 4 = .ok (.iload_n 1, 1) := by decide +kernel
theorem dX11_isThing_5 : decode cX11_isThing 5 = .ok (.aload_n 0, 1) := by decide +kernel
theorem dX11_isThing_6 : decode cX11_isThing 6 = .ok (.getfield 12, 3) := by decide +kernel
theorem dX11_isThing_9 : decode cX11_isThing 9 = .ok (.getfield 122, 3) := by decide +kernel
theorem dX11_isThing_12 : decode cX11_isThing 12 = .ok (.if_icmp .ge 7, 3) := by decide +kernel
theorem dX11_isThing_15 : decode cX11_isThing 15 = .ok (.iconst 1, 1) := by decide +kernel
theorem dX11_isThing_16 : decode cX11_isThing 16 = .ok (.goto 4, 3) := by decide +kernel
theorem dX11_isThing_19 : decode cX11_isThing 19 = .ok (.iconst 0, 1) := by decide +kernel
theorem dX11_isThing_20 : decode cX11_isThing 20 = .ok (.ireturn, 1) := by decide +kernel
set_option maxRecDepth 100000 in
set_option maxHeartbeats 4000000 in
theorem kX11_isThing (l : Launch) (w : wT) (hw : yOk w 55) (σ : Hp) (a1 : Int32) (K : Int32 → Hp → Prop) (hv : VX11_isThing K σ a1) : yMet l w xcf 55 yX11_isThing cX11_isThing 2 (some .boolean) 1 [.ref (w.1 0), .int a1] σ (yQi w xcf 55 K) := by
  unfold VX11_isThing at hv
  refine y_start (lv0 := [(0, .ref (w.1 0)), (1, .int a1)]) (by decide +kernel) (own := RX11) rfl hw (Nat.le_of_ble_eq_true rfl) rfl (fun p e s m below meth c A E => ?_)
  refine y_iload_n E dX11_isThing_0 1 rfl ?_
  refine y_if_lt (tgt := 19) E dX11_isThing_1 (by decide) (fun c1 => ?_) (fun c1 => ?_)
  · replace hv := ite_t hv c1
    refine y_iconst (v := 0) E dX11_isThing_19 (by decide) ?_
    exact y_nret E dX11_isThing_20 (by decide) hv
  · replace hv := ite_f hv c1
    refine y_iload_n E dX11_isThing_4 1 rfl ?_
    refine y_aload_n E dX11_isThing_5 0 rfl ?_
    refine gf_X11_0 E (by decide) (by decide) wm_272 dX11_isThing_6 ?_
    refine gf_X3_5 E (by decide) (by decide) wm_286 dX11_isThing_9 ?_
    refine y_icmp_ge (tgt := 19) E dX11_isThing_12 (by decide) (fun c2 => ?_) (fun c2 => ?_)
    · replace hv := ite_t hv c2
      refine y_iconst (v := 0) E dX11_isThing_19 (by decide) ?_
      exact y_nret E dX11_isThing_20 (by decide) hv
    · replace hv := ite_f hv c2
      refine y_iconst (v := 1) E dX11_isThing_15 (by decide) ?_
      refine y_goto (tgt := 20) E dX11_isThing_16 (by decide) ?_
      exact y_nret E dX11_isThing_20 (by decide) hv
theorem dX11_put_0 : decode cX11_put 0 = .ok (.aload_n 0, 1) := by decide +kernel
theorem dX11_put_1 : decode cX11_put 1 = .ok (.iload_n 1, 1) := by decide +kernel
theorem dX11_put_2 : decode cX11_put 2 = .ok (.invokevirtual 175, 3) := by decide +kernel
theorem dX11_put_5 : decode cX11_put 5 = .ok (.ifCond .ne 6, 3) := by decide +kernel
theorem dX11_put_8 : decode cX11_put 8 = .ok (.bipush (-5), 2) := by decide +kernel
theorem dX11_put_10 : decode cX11_put 10 = .ok (.ireturn, 1) := by decide +kernel
theorem dX11_put_11 : decode cX11_put 11 = .ok (.aload_n 0, 1) := by decide +kernel
theorem dX11_put_12 : decode cX11_put 12 = .ok (.iload_n 2, 1) := by decide +kernel
theorem dX11_put_13 : decode cX11_put 13 = .ok (.invokevirtual 158, 3) := by decide +kernel
theorem dX11_put_16 : decode cX11_put 16 = .ok (.ifCond .eq 10, 3) := by decide +kernel
theorem dX11_put_19 : decode cX11_put 19 = .ok (.iload_n 3, 1) := by decide +kernel
theorem dX11_put_20 : decode cX11_put 20 = .ok (.invokestatic 161, 3) := by decide +kernel
theorem dX11_put_23 : decode cX11_put 23 = .ok (.ifCond .ne 6, 3) := by decide +kernel
theorem dX11_put_26 : decode cX11_put 26 = .ok (.bipush (-7), 2) := by decide +kernel
theorem dX11_put_28 : decode cX11_put 28 = .ok (.ireturn, 1) := by decide +kernel
theorem dX11_put_29 : decode cX11_put 29 = .ok (.aload_n 0, 1) := by decide +kernel
theorem dX11_put_30 : decode cX11_put 30 = .ok (.getfield 12, 3) := by decide +kernel
theorem dX11_put_33 : decode cX11_put 33 = .ok (.getfield 169, 3) := by decide +kernel
theorem dX11_put_36 : decode cX11_put 36 = .ok (.iload_n 1, 1) := by decide +kernel
theorem dX11_put_37 : decode cX11_put 37 = .ok (.iaload, 1) := by decide +kernel
theorem dX11_put_38 : decode cX11_put 38 = .ok (.istore 4, 2) := by decide +kernel
theorem dX11_put_40 : decode cX11_put 40 = .ok (.aload_n 0, 1) := by decide +kernel
theorem dX11_put_41 : decode cX11_put 41 = .ok (.getfield 12, 3) := by decide +kernel
theorem dX11_put_44 : decode cX11_put 44 = .ok (.getfield 169, 3) := by decide +kernel
theorem dX11_put_47 : decode cX11_put 47 = .ok (.iload_n 1, 1) := by decide +kernel
theorem dX11_put_48 : decode cX11_put 48 = .ok (.iload_n 2, 1) := by decide +kernel
theorem dX11_put_49 : decode cX11_put 49 = .ok (.iastore, 1) := by decide +kernel
theorem dX11_put_50 : decode cX11_put 50 = .ok (.aload_n 0, 1) := by decide +kernel
theorem dX11_put_51 : decode cX11_put 51 = .ok (.getfield 12, 3) := by decide +kernel
theorem dX11_put_54 : decode cX11_put 54 = .ok (.getfield 172, 3) := by decide +kernel
theorem dX11_put_57 : decode cX11_put 57 = .ok (.iload_n 1, 1) := by decide +kernel
theorem dX11_put_58 : decode cX11_put 58 = .ok (.iload_n 3, 1) := by decide +kernel
theorem dX11_put_59 : decode cX11_put 59 = .ok (.iastore, 1) := by decide +kernel
theorem dX11_put_60 : decode cX11_put 60 = .ok (.iload 4, 2) := by decide +kernel
theorem dX11_put_62 : decode cX11_put 62 = .ok (.ireturn, 1) := by decide +kernel
set_option maxRecDepth 100000 in
set_option maxHeartbeats 4000000 in
theorem kX11_put (l : Launch) (w : wT) (hw : yOk w 55) (σ : Hp) (a1 : Int32) (a2 : Int32) (a3 : Int32) (K : Int32 → Hp → Prop) (hv : VX11_put K σ a1 a2 a3) : yMet l w xcf 55 yX11_put cX11_put 5 (some .int) 3 [.ref (w.1 0), .int a1, .int a2, .int a3] σ (yQi w xcf 55 K) := by
  unfold VX11_put at hv
  refine y_start (lv0 := [(0, .ref (w.1 0)), (1, .int a1), (2, .int a2), (3, .int a3)]) (by decide +kernel) (own := RX11) rfl hw (Nat.le_of_ble_eq_true rfl) rfl (fun p e s m below meth c A E => ?_)
  refine y_aload_n E dX11_put_0 0 rfl ?_
  refine y_iload_n E dX11_put_1 1 rfl ?_
  refine y_calli E (y_runV E (rest := []) (kX11_isThing l w E.2.2.1 σ a1 _ hv) (y_cwV 1 E.1.2.2.2.2 wm_322 wm_323 wm_324 wm_116 wm_325 (by decide +kernel) (yRm_le (by decide) (by decide))) (Nat.lt_of_lt_of_le (show 0 < 1 by decide) (by decide)) (xc_X11 (by decide) (by decide)) rfl rfl rfl (Nat.le_of_ble_eq_true rfl) dX11_put_2) (fun v1 u2 hk => ?_)
  clear hv
  have hv := hk
  clear hk
  refine y_if_ne (tgt := 11) E dX11_put_5 (by decide) (fun c3 => ?_) (fun c3 => ?_)
  · replace hv := ite_f hv c3
    refine y_aload_n E dX11_put_11 0 rfl ?_
    refine y_iload_n E dX11_put_12 2 rfl ?_
    refine y_calli E (y_runV E (rest := []) (kX11_isOpen l w E.2.2.1 u2 a2 _ hv) (y_cwV 1 E.1.2.2.2.2 wm_311 wm_319 wm_320 wm_116 wm_321 (by decide +kernel) (yRm_le (by decide) (by decide))) (Nat.lt_of_lt_of_le (show 0 < 1 by decide) (by decide)) (xc_X11 (by decide) (by decide)) rfl rfl rfl (Nat.le_of_ble_eq_true rfl) dX11_put_13) (fun v4 u5 hk => ?_)
    clear hv
    have hv := hk
    clear hk
    refine y_if_eq (tgt := 26) E dX11_put_16 (by decide) (fun c6 => ?_) (fun c6 => ?_)
    · replace hv := ite_t hv c6
      refine y_bipush (v := (-7)) E dX11_put_26 (by decide) ?_
      exact y_iret E dX11_put_28 hv
    · replace hv := ite_f hv c6
      refine y_iload_n E dX11_put_19 3 rfl ?_
      refine y_calli E (y_runS E (rest := []) (kX11_isWay l w E.2.2.1 u5 a3 _ hv) (y_cwS 1 E.1.2.2.2.2 wm_312 wm_317 wm_116 wm_318 (by decide +kernel) (yRm_le (by decide) (by decide))) rfl rfl (Nat.le_of_ble_eq_true rfl) dX11_put_20) (fun v7 u8 hk => ?_)
      clear hv
      have hv := hk
      clear hk
      refine y_if_ne (tgt := 29) E dX11_put_23 (by decide) (fun c9 => ?_) (fun c9 => ?_)
      · replace hv := ite_f hv c9
        refine y_aload_n E dX11_put_29 0 rfl ?_
        refine gf_X11_0 E (by decide) (by decide) wm_272 dX11_put_30 ?_
        refine gf_X3_8 (q := 5) E (by decide) (by decide) rfl wm_315 dX11_put_33 ?_
        refine y_iload_n E dX11_put_36 1 rfl ?_
        obtain ⟨hi, hv⟩ := hv
        refine y_iald E (Nat.lt_of_lt_of_le (show 5 < 11 by decide) (by decide)) (xc_harr (by decide) (by decide)) hi dX11_put_37 ?_
        refine y_nmi (fun x10 hx10 => ?_)
        replace hv := hv x10 hx10
        refine y_istore (lv' := [(4, .int x10), (0, .ref (w.1 0)), (1, .int a1), (2, .int a2), (3, .int a3)]) E dX11_put_38 (by decide) rfl ?_
        refine y_aload_n E dX11_put_40 1 rfl ?_
        refine gf_X11_0 E (by decide) (by decide) wm_272 dX11_put_41 ?_
        refine gf_X3_8 (q := 5) E (by decide) (by decide) rfl wm_315 dX11_put_44 ?_
        refine y_iload_n E dX11_put_47 2 rfl ?_
        refine y_iload_n E dX11_put_48 3 rfl ?_
        obtain ⟨hi, hv⟩ := hv
        refine y_iast E (Nat.lt_of_lt_of_le (show 5 < 11 by decide) (by decide)) (fun _ => xc_harr (by decide) (by decide)) hi dX11_put_49 ?_
        refine y_nmH (fun u11 hu11 => ?_)
        replace hv := hv u11 hu11
        refine y_aload_n E dX11_put_50 1 rfl ?_
        refine gf_X11_0 E (by decide) (by decide) wm_272 dX11_put_51 ?_
        refine gf_X3_9 (q := 6) E (by decide) (by decide) rfl wm_316 dX11_put_54 ?_
        refine y_iload_n E dX11_put_57 2 rfl ?_
        refine y_iload_n E dX11_put_58 4 rfl ?_
        obtain ⟨hi, hv⟩ := hv
        refine y_iast E (Nat.lt_of_lt_of_le (show 6 < 11 by decide) (by decide)) (fun _ => xc_harr (by decide) (by decide)) hi dX11_put_59 ?_
        refine y_nmH (fun u12 hu12 => ?_)
        replace hv := hv u12 hu12
        refine y_iload E dX11_put_60 0 rfl ?_
        exact y_iret E dX11_put_62 hv
      · replace hv := ite_t hv c9
        refine y_bipush (v := (-7)) E dX11_put_26 (by decide) ?_
        exact y_iret E dX11_put_28 hv
  · replace hv := ite_t hv c3
    refine y_bipush (v := (-5)) E dX11_put_8 (by decide) ?_
    exact y_iret E dX11_put_10 hv
theorem dX11_told_0 : decode cX11_told 0 = .ok (.aload_n 0, 1) := by decide +kernel
theorem dX11_told_1 : decode cX11_told 1 = .ok (.iload_n 1, 1) := by decide +kernel
theorem dX11_told_2 : decode cX11_told 2 = .ok (.invokevirtual 175, 3) := by decide +kernel
theorem dX11_told_5 : decode cX11_told 5 = .ok (.ifCond .ne 6, 3) := by decide +kernel
theorem dX11_told_8 : decode cX11_told 8 = .ok (.bipush (-5), 2) := by decide +kernel
theorem dX11_told_10 : decode cX11_told 10 = .ok (.ireturn, 1) := by decide +kernel
theorem dX11_told_11 : decode cX11_told 11 = .ok (.iload_n 2, 1) := by decide +kernel
theorem dX11_told_12 : decode cX11_told 12 = .ok (.tableswitch 72 0 3 #[32, 42, 52, 62], 32) := by decide +kernel
theorem dX11_told_44 : decode cX11_told 44 = .ok (.aload_n 0, 1) := by decide +kernel
theorem dX11_told_45 : decode cX11_told 45 = .ok (.getfield 12, 3) := by decide +kernel
theorem dX11_told_48 : decode cX11_told 48 = .ok (.getfield 169, 3) := by decide +kernel
theorem dX11_told_51 : decode cX11_told 51 = .ok (.iload_n 1, 1) := by decide +kernel
theorem dX11_told_52 : decode cX11_told 52 = .ok (.iaload, 1) := by decide +kernel
theorem dX11_told_53 : decode cX11_told 53 = .ok (.ireturn, 1) := by decide +kernel
theorem dX11_told_54 : decode cX11_told 54 = .ok (.aload_n 0, 1) := by decide +kernel
theorem dX11_told_55 : decode cX11_told 55 = .ok (.getfield 12, 3) := by decide +kernel
theorem dX11_told_58 : decode cX11_told 58 = .ok (.getfield 172, 3) := by decide +kernel
theorem dX11_told_61 : decode cX11_told 61 = .ok (.iload_n 1, 1) := by decide +kernel
theorem dX11_told_62 : decode cX11_told 62 = .ok (.iaload, 1) := by decide +kernel
theorem dX11_told_63 : decode cX11_told 63 = .ok (.ireturn, 1) := by decide +kernel
theorem dX11_told_64 : decode cX11_told 64 = .ok (.aload_n 0, 1) := by decide +kernel
theorem dX11_told_65 : decode cX11_told 65 = .ok (.getfield 12, 3) := by decide +kernel
theorem dX11_told_68 : decode cX11_told 68 = .ok (.getfield 164, 3) := by decide +kernel
theorem dX11_told_71 : decode cX11_told 71 = .ok (.iload_n 1, 1) := by decide +kernel
theorem dX11_told_72 : decode cX11_told 72 = .ok (.iaload, 1) := by decide +kernel
theorem dX11_told_73 : decode cX11_told 73 = .ok (.ireturn, 1) := by decide +kernel
theorem dX11_told_74 : decode cX11_told 74 = .ok (.aload_n 0, 1) := by decide +kernel
theorem dX11_told_75 : decode cX11_told 75 = .ok (.getfield 12, 3) := by decide +kernel
theorem dX11_told_78 : decode cX11_told 78 = .ok (.getfield 166, 3) := by decide +kernel
theorem dX11_told_81 : decode cX11_told 81 = .ok (.iload_n 1, 1) := by decide +kernel
theorem dX11_told_82 : decode cX11_told 82 = .ok (.iaload, 1) := by decide +kernel
theorem dX11_told_83 : decode cX11_told 83 = .ok (.ireturn, 1) := by decide +kernel
theorem dX11_told_84 : decode cX11_told 84 = .ok (.bipush (-7), 2) := by decide +kernel
theorem dX11_told_86 : decode cX11_told 86 = .ok (.ireturn, 1) := by decide +kernel
set_option maxRecDepth 100000 in
set_option maxHeartbeats 4000000 in
theorem kX11_told (l : Launch) (w : wT) (hw : yOk w 55) (σ : Hp) (a1 : Int32) (a2 : Int32) (K : Int32 → Hp → Prop) (hv : VX11_told K σ a1 a2) : yMet l w xcf 55 yX11_told cX11_told 3 (some .int) 2 [.ref (w.1 0), .int a1, .int a2] σ (yQi w xcf 55 K) := by
  unfold VX11_told at hv
  refine y_start (lv0 := [(0, .ref (w.1 0)), (1, .int a1), (2, .int a2)]) (by decide +kernel) (own := RX11) rfl hw (Nat.le_of_ble_eq_true rfl) rfl (fun p e s m below meth c A E => ?_)
  refine y_aload_n E dX11_told_0 0 rfl ?_
  refine y_iload_n E dX11_told_1 1 rfl ?_
  refine y_calli E (y_runV E (rest := []) (kX11_isThing l w E.2.2.1 σ a1 _ hv) (y_cwV 1 E.1.2.2.2.2 wm_322 wm_323 wm_324 wm_116 wm_325 (by decide +kernel) (yRm_le (by decide) (by decide))) (Nat.lt_of_lt_of_le (show 0 < 1 by decide) (by decide)) (xc_X11 (by decide) (by decide)) rfl rfl rfl (Nat.le_of_ble_eq_true rfl) dX11_told_2) (fun v1 u2 hk => ?_)
  clear hv
  have hv := hk
  clear hk
  refine y_if_ne (tgt := 11) E dX11_told_5 (by decide) (fun c3 => ?_) (fun c3 => ?_)
  · replace hv := ite_f hv c3
    refine y_iload_n E dX11_told_11 2 rfl ?_
    by_cases c4 : a2 = 0
    · replace hv := ite_t hv c4
      refine y_table1 (tgt := 44) (off := 32) (j := 0) E dX11_told_12 (i32_eq (z := 0) (by decide) c4) (by decide) rfl (by decide) ?_
      refine y_aload_n E dX11_told_44 0 rfl ?_
      refine gf_X11_0 E (by decide) (by decide) wm_272 dX11_told_45 ?_
      refine gf_X3_8 (q := 5) E (by decide) (by decide) rfl wm_315 dX11_told_48 ?_
      refine y_iload_n E dX11_told_51 1 rfl ?_
      obtain ⟨hi, hv⟩ := hv
      refine y_iald E (Nat.lt_of_lt_of_le (show 5 < 11 by decide) (by decide)) (xc_harr (by decide) (by decide)) hi dX11_told_52 ?_
      exact y_iret E dX11_told_53 hv
    · replace hv := ite_f hv c4
      by_cases c5 : a2 = 1
      · replace hv := ite_t hv c5
        refine y_table1 (tgt := 54) (off := 42) (j := 1) E dX11_told_12 (i32_eq (z := 1) (by decide) c5) (by decide) rfl (by decide) ?_
        refine y_aload_n E dX11_told_54 0 rfl ?_
        refine gf_X11_0 E (by decide) (by decide) wm_272 dX11_told_55 ?_
        refine gf_X3_9 (q := 6) E (by decide) (by decide) rfl wm_316 dX11_told_58 ?_
        refine y_iload_n E dX11_told_61 1 rfl ?_
        obtain ⟨hi, hv⟩ := hv
        refine y_iald E (Nat.lt_of_lt_of_le (show 6 < 11 by decide) (by decide)) (xc_harr (by decide) (by decide)) hi dX11_told_62 ?_
        exact y_iret E dX11_told_63 hv
      · replace hv := ite_f hv c5
        by_cases c6 : a2 = 2
        · replace hv := ite_t hv c6
          refine y_table1 (tgt := 64) (off := 52) (j := 2) E dX11_told_12 (i32_eq (z := 2) (by decide) c6) (by decide) rfl (by decide) ?_
          refine y_aload_n E dX11_told_64 0 rfl ?_
          refine gf_X11_0 E (by decide) (by decide) wm_272 dX11_told_65 ?_
          refine gf_X3_6 (q := 3) E (by decide) (by decide) rfl wm_313 dX11_told_68 ?_
          refine y_iload_n E dX11_told_71 1 rfl ?_
          obtain ⟨hi, hv⟩ := hv
          refine y_iald E (Nat.lt_of_lt_of_le (show 3 < 11 by decide) (by decide)) (xc_harr (by decide) (by decide)) hi dX11_told_72 ?_
          exact y_iret E dX11_told_73 hv
        · replace hv := ite_f hv c6
          by_cases c7 : a2 = 3
          · replace hv := ite_t hv c7
            refine y_table1 (tgt := 74) (off := 62) (j := 3) E dX11_told_12 (i32_eq (z := 3) (by decide) c7) (by decide) rfl (by decide) ?_
            refine y_aload_n E dX11_told_74 0 rfl ?_
            refine gf_X11_0 E (by decide) (by decide) wm_272 dX11_told_75 ?_
            refine gf_X3_7 (q := 4) E (by decide) (by decide) rfl wm_314 dX11_told_78 ?_
            refine y_iload_n E dX11_told_81 1 rfl ?_
            obtain ⟨hi, hv⟩ := hv
            refine y_iald E (Nat.lt_of_lt_of_le (show 4 < 11 by decide) (by decide)) (xc_harr (by decide) (by decide)) hi dX11_told_82 ?_
            exact y_iret E dX11_told_83 hv
          · replace hv := ite_f hv c7
            refine y_table0 (tgt := 84) E dX11_told_12 (by decide) (fun j hj => ?_) (by decide) ?_
            · match j, hj with
              | 0, _ => exact Or.inr (i32_ne (z := 0 + ((0 : Nat) : Int)) (by decide) c4)
              | 1, _ => exact Or.inr (i32_ne (z := 0 + ((1 : Nat) : Int)) (by decide) c5)
              | 2, _ => exact Or.inr (i32_ne (z := 0 + ((2 : Nat) : Int)) (by decide) c6)
              | 3, _ => exact Or.inr (i32_ne (z := 0 + ((3 : Nat) : Int)) (by decide) c7)
              | j + 4, hj => exact absurd hj (by simp)
            · refine y_bipush (v := (-7)) E dX11_told_84 (by decide) ?_
              exact y_iret E dX11_told_86 hv
  · replace hv := ite_t hv c3
    refine y_bipush (v := (-5)) E dX11_told_8 (by decide) ?_
    exact y_iret E dX11_told_10 hv
theorem dX11_lift_0 : decode cX11_lift 0 = .ok (.aload_n 0, 1) := by decide +kernel
theorem dX11_lift_1 : decode cX11_lift 1 = .ok (.getfield 49, 3) := by decide +kernel
theorem dX11_lift_4 : decode cX11_lift 4 = .ok (.aload_n 0, 1) := by decide +kernel
theorem dX11_lift_5 : decode cX11_lift 5 = .ok (.invokevirtual 151, 3) := by decide +kernel
theorem dX11_lift_8 : decode cX11_lift 8 = .ok (.putfield 311, 3) := by decide +kernel
theorem dX11_lift_11 : decode cX11_lift 11 = .ok (.aload_n 0, 1) := by decide +kernel
theorem dX11_lift_12 : decode cX11_lift 12 = .ok (.getfield 49, 3) := by decide +kernel
theorem dX11_lift_15 : decode cX11_lift 15 = .ok (.aload_n 0, 1) := by decide +kernel
theorem dX11_lift_16 : decode cX11_lift 16 = .ok (.getfield 12, 3) := by decide +kernel
theorem dX11_lift_19 : decode cX11_lift 19 = .ok (.getfield 128, 3) := by decide +kernel
theorem dX11_lift_22 : decode cX11_lift 22 = .ok (.putfield 314, 3) := by decide +kernel
theorem dX11_lift_25 : decode cX11_lift 25 = .ok (.aload_n 0, 1) := by decide +kernel
theorem dX11_lift_26 : decode cX11_lift 26 = .ok (.getfield 49, 3) := by decide +kernel
theorem dX11_lift_29 : decode cX11_lift 29 = .ok (.iload_n 1, 1) := by decide +kernel
theorem dX11_lift_30 : decode cX11_lift 30 = .ok (.putfield 315, 3) := by decide +kernel
theorem dX11_lift_33 : decode cX11_lift 33 = .ok (.aload_n 0, 1) := by decide +kernel
theorem dX11_lift_34 : decode cX11_lift 34 = .ok (.getfield 49, 3) := by decide +kernel
theorem dX11_lift_37 : decode cX11_lift 37 = .ok (.aload_n 0, 1) := by decide +kernel
theorem dX11_lift_38 : decode cX11_lift 38 = .ok (.getfield 21, 3) := by decide +kernel
theorem dX11_lift_41 : decode cX11_lift 41 = .ok (.aload_n 0, 1) := by decide +kernel
theorem dX11_lift_42 : decode cX11_lift 42 = .ok (.getfield 12, 3) := by decide +kernel
theorem dX11_lift_45 : decode cX11_lift 45 = .ok (.getfield 164, 3) := by decide +kernel
theorem dX11_lift_48 : decode cX11_lift 48 = .ok (.iload_n 1, 1) := by decide +kernel
theorem dX11_lift_49 : decode cX11_lift 49 = .ok (.iaload, 1) := by decide +kernel
theorem dX11_lift_50 : decode cX11_lift 50 = .ok (.aaload, 1) := by decide +kernel
theorem dX11_lift_51 : decode cX11_lift 51 = .ok (.putfield 318, 3) := by decide +kernel
theorem dX11_lift_54 : decode cX11_lift 54 = .ok (.aload_n 0, 1) := by decide +kernel
theorem dX11_lift_55 : decode cX11_lift 55 = .ok (.getfield 49, 3) := by decide +kernel
theorem dX11_lift_58 : decode cX11_lift 58 = .ok (.aload_n 0, 1) := by decide +kernel
theorem dX11_lift_59 : decode cX11_lift 59 = .ok (.getfield 12, 3) := by decide +kernel
theorem dX11_lift_62 : decode cX11_lift 62 = .ok (.getfield 166, 3) := by decide +kernel
theorem dX11_lift_65 : decode cX11_lift 65 = .ok (.iload_n 1, 1) := by decide +kernel
theorem dX11_lift_66 : decode cX11_lift 66 = .ok (.iaload, 1) := by decide +kernel
theorem dX11_lift_67 : decode cX11_lift 67 = .ok (.putfield 322, 3) := by decide +kernel
theorem dX11_lift_70 : decode cX11_lift 70 = .ok (.aload_n 0, 1) := by decide +kernel
theorem dX11_lift_71 : decode cX11_lift 71 = .ok (.getfield 49, 3) := by decide +kernel
theorem dX11_lift_74 : decode cX11_lift 74 = .ok (.aload_n 0, 1) := by decide +kernel
theorem dX11_lift_75 : decode cX11_lift 75 = .ok (.getfield 12, 3) := by decide +kernel
theorem dX11_lift_78 : decode cX11_lift 78 = .ok (.getfield 169, 3) := by decide +kernel
theorem dX11_lift_81 : decode cX11_lift 81 = .ok (.iload_n 1, 1) := by decide +kernel
theorem dX11_lift_82 : decode cX11_lift 82 = .ok (.iaload, 1) := by decide +kernel
theorem dX11_lift_83 : decode cX11_lift 83 = .ok (.putfield 188, 3) := by decide +kernel
theorem dX11_lift_86 : decode cX11_lift 86 = .ok (.aload_n 0, 1) := by decide +kernel
theorem dX11_lift_87 : decode cX11_lift 87 = .ok (.getfield 49, 3) := by decide +kernel
theorem dX11_lift_90 : decode cX11_lift 90 = .ok (.aload_n 0, 1) := by decide +kernel
theorem dX11_lift_91 : decode cX11_lift 91 = .ok (.getfield 12, 3) := by decide +kernel
theorem dX11_lift_94 : decode cX11_lift 94 = .ok (.getfield 172, 3) := by decide +kernel
theorem dX11_lift_97 : decode cX11_lift 97 = .ok (.iload_n 1, 1) := by decide +kernel
theorem dX11_lift_98 : decode cX11_lift 98 = .ok (.iaload, 1) := by decide +kernel
theorem dX11_lift_99 : decode cX11_lift 99 = .ok (.putfield 191, 3) := by decide +kernel
theorem dX11_lift_102 : decode cX11_lift 102 = .ok (.aload_n 0, 1) := by decide +kernel
theorem dX11_lift_103 : decode cX11_lift 103 = .ok (.getfield 49, 3) := by decide +kernel
theorem dX11_lift_106 : decode cX11_lift 106 = .ok (.areturn, 1) := by decide +kernel
set_option maxRecDepth 100000 in
set_option maxHeartbeats 4000000 in
theorem kX11_lift (l : Launch) (w : wT) (hw : yOk w 55) (σ : Hp) (a1 : Int32) (K : Nat → Hp → Prop) (hv : VX11_lift K σ a1) : yMet l w xcf 55 yX11_lift cX11_lift 2 (some (.object "WhereTheSpoonWent$Flight")) 2 [.ref (w.1 0), .int a1] σ (yQr w xcf 55 K) := by
  unfold VX11_lift at hv
  refine y_start (lv0 := [(0, .ref (w.1 0)), (1, .int a1)]) (by decide +kernel) (own := RX11) rfl hw (Nat.le_of_ble_eq_true rfl) rfl (fun p e s m below meth c A E => ?_)
  refine y_aload_n E dX11_lift_0 0 rfl ?_
  refine gf_X11_8 E (by decide) (by decide) wm_457 dX11_lift_1 ?_
  refine y_aload_n E dX11_lift_4 0 rfl ?_
  refine y_callr E (y_runV E (rest := [.ref (w.1 49)]) (kX11_law l w E.2.2.1 σ _ hv) (y_cwV 0 E.1.2.2.2.2 wm_306 wm_308 wm_309 wm_116 wm_310 (by decide +kernel) (yRm_le (by decide) (by decide))) (Nat.lt_of_lt_of_le (show 0 < 1 by decide) (by decide)) (xc_X11 (by decide) (by decide)) rfl rfl rfl (Nat.le_of_ble_eq_true rfl) dX11_lift_5) (fun v1 u2 hk => ?_)
  clear hv
  have hv := hk
  clear hk
  obtain ⟨hgv1, hv⟩ := hv
  refine pf_X1_1 E (by decide) (by decide) (Nat.lt_of_lt_of_le hgv1.2 (by decide)) wm_458 dX11_lift_8 ?_
  refine y_nmH (fun u3 hu3 => ?_)
  replace hv := hv u3 hu3
  refine y_aload_n E dX11_lift_11 0 rfl ?_
  refine gf_X11_8 E (by decide) (by decide) wm_457 dX11_lift_12 ?_
  refine y_aload_n E dX11_lift_15 0 rfl ?_
  refine gf_X11_0 E (by decide) (by decide) wm_272 dX11_lift_16 ?_
  refine gf_X3_1 E (by decide) (by decide) wm_288 dX11_lift_19 ?_
  refine pf_X1_3 E (by decide) (by decide) wm_459 dX11_lift_22 ?_
  refine y_nmH (fun u4 hu4 => ?_)
  replace hv := hv u4 hu4
  refine y_aload_n E dX11_lift_25 0 rfl ?_
  refine gf_X11_8 E (by decide) (by decide) wm_457 dX11_lift_26 ?_
  refine y_iload_n E dX11_lift_29 1 rfl ?_
  refine pf_X1_4 E (by decide) (by decide) wm_460 dX11_lift_30 ?_
  refine y_nmH (fun u5 hu5 => ?_)
  replace hv := hv u5 hu5
  refine y_aload_n E dX11_lift_33 0 rfl ?_
  refine gf_X11_8 E (by decide) (by decide) wm_457 dX11_lift_34 ?_
  refine y_aload_n E dX11_lift_37 0 rfl ?_
  refine gf_X11_3 E (by decide) (by decide) wm_461 dX11_lift_38 ?_
  refine y_aload_n E dX11_lift_41 0 rfl ?_
  refine gf_X11_0 E (by decide) (by decide) wm_272 dX11_lift_42 ?_
  refine gf_X3_6 (q := 3) E (by decide) (by decide) rfl wm_313 dX11_lift_45 ?_
  refine y_iload_n E dX11_lift_48 1 rfl ?_
  obtain ⟨hi, hv⟩ := hv
  refine y_iald E (Nat.lt_of_lt_of_le (show 3 < 11 by decide) (by decide)) (xc_harr (by decide) (by decide)) hi dX11_lift_49 ?_
  obtain ⟨hi, hv⟩ := hv
  refine y_aald (t0 := 4) E (by decide) (xc_rkinds (by decide) (by decide)) rfl hi dX11_lift_50 ?_
  refine y_nmr (fun x6 hx6 => ?_)
  replace hv := hv x6 hx6
  have hgx6 : 12 ≤ x6 ∧ x6 < 18 := by have := vp_in_lt hi; omega
  refine pf_X1_2 E (by decide) (by decide) (Nat.lt_of_lt_of_le hgx6.2 (by decide)) wm_462 dX11_lift_51 ?_
  refine y_nmH (fun u7 hu7 => ?_)
  replace hv := hv u7 hu7
  refine y_aload_n E dX11_lift_54 0 rfl ?_
  refine gf_X11_8 E (by decide) (by decide) wm_457 dX11_lift_55 ?_
  refine y_aload_n E dX11_lift_58 0 rfl ?_
  refine gf_X11_0 E (by decide) (by decide) wm_272 dX11_lift_59 ?_
  refine gf_X3_7 (q := 4) E (by decide) (by decide) rfl wm_314 dX11_lift_62 ?_
  refine y_iload_n E dX11_lift_65 1 rfl ?_
  obtain ⟨hi, hv⟩ := hv
  refine y_iald E (Nat.lt_of_lt_of_le (show 4 < 11 by decide) (by decide)) (xc_harr (by decide) (by decide)) hi dX11_lift_66 ?_
  refine pf_X1_5 E (by decide) (by decide) wm_463 dX11_lift_67 ?_
  refine y_nmH (fun u8 hu8 => ?_)
  replace hv := hv u8 hu8
  refine y_aload_n E dX11_lift_70 0 rfl ?_
  refine gf_X11_8 E (by decide) (by decide) wm_457 dX11_lift_71 ?_
  refine y_aload_n E dX11_lift_74 0 rfl ?_
  refine gf_X11_0 E (by decide) (by decide) wm_272 dX11_lift_75 ?_
  refine gf_X3_8 (q := 5) E (by decide) (by decide) rfl wm_315 dX11_lift_78 ?_
  refine y_iload_n E dX11_lift_81 1 rfl ?_
  obtain ⟨hi, hv⟩ := hv
  refine y_iald E (Nat.lt_of_lt_of_le (show 5 < 11 by decide) (by decide)) (xc_harr (by decide) (by decide)) hi dX11_lift_82 ?_
  refine pf_X1_6 E (by decide) (by decide) wm_330 dX11_lift_83 ?_
  refine y_nmH (fun u9 hu9 => ?_)
  replace hv := hv u9 hu9
  refine y_aload_n E dX11_lift_86 0 rfl ?_
  refine gf_X11_8 E (by decide) (by decide) wm_457 dX11_lift_87 ?_
  refine y_aload_n E dX11_lift_90 0 rfl ?_
  refine gf_X11_0 E (by decide) (by decide) wm_272 dX11_lift_91 ?_
  refine gf_X3_9 (q := 6) E (by decide) (by decide) rfl wm_316 dX11_lift_94 ?_
  refine y_iload_n E dX11_lift_97 1 rfl ?_
  obtain ⟨hi, hv⟩ := hv
  refine y_iald E (Nat.lt_of_lt_of_le (show 6 < 11 by decide) (by decide)) (xc_harr (by decide) (by decide)) hi dX11_lift_98 ?_
  refine pf_X1_7 E (by decide) (by decide) wm_329 dX11_lift_99 ?_
  refine y_nmH (fun u10 hu10 => ?_)
  replace hv := hv u10 hu10
  refine y_aload_n E dX11_lift_102 0 rfl ?_
  refine gf_X11_8 E (by decide) (by decide) wm_457 dX11_lift_103 ?_
  exact y_aret E dX11_lift_106 hv
theorem dX11_behind_0 : decode cX11_behind 0 = .ok (.aload_n 0, 1) := by decide +kernel
theorem dX11_behind_1 : decode cX11_behind 1 = .ok (.iload_n 2, 1) := by decide +kernel
theorem dX11_behind_2 : decode cX11_behind 2 = .ok (.invokevirtual 200, 3) := by decide +kernel
theorem dX11_behind_5 : decode cX11_behind 5 = .ok (.astore_n 3, 1) := by decide +kernel
theorem dX11_behind_6 : decode cX11_behind 6 = .ok (.aload_n 3, 1) := by decide +kernel
theorem dX11_behind_7 : decode cX11_behind 7 = .ok (.aload_n 0, 1) := by decide +kernel
theorem dX11_behind_8 : decode cX11_behind 8 = .ok (.getfield 12, 3) := by decide +kernel
theorem dX11_behind_11 : decode cX11_behind 11 = .ok (.getfield 119, 3) := by decide +kernel
theorem dX11_behind_14 : decode cX11_behind 14 = .ok (.iload_n 1, 1) := by decide +kernel
theorem dX11_behind_15 : decode cX11_behind 15 = .ok (.invokevirtual 325, 3) := by decide +kernel
theorem dX11_behind_18 : decode cX11_behind 18 = .ok (.aload_n 3, 1) := by decide +kernel
theorem dX11_behind_19 : decode cX11_behind 19 = .ok (.areturn, 1) := by decide +kernel
set_option maxRecDepth 100000 in
set_option maxHeartbeats 4000000 in
theorem kX11_behind (l : Launch) (w : wT) (hw : yOk w 55) (σ : Hp) (a1 : Int32) (a2 : Int32) (K : Nat → Hp → Prop) (hv : VX11_behind K σ a1 a2) : yMet l w xcf 55 yX11_behind cX11_behind 4 (some (.object "WhereTheSpoonWent$Flight")) 5 [.ref (w.1 0), .int a1, .int a2] σ (yQr w xcf 55 K) := by
  unfold VX11_behind at hv
  refine y_start (lv0 := [(0, .ref (w.1 0)), (1, .int a1), (2, .int a2)]) (by decide +kernel) (own := RX11) rfl hw (Nat.le_of_ble_eq_true rfl) rfl (fun p e s m below meth c A E => ?_)
  refine y_aload_n E dX11_behind_0 0 rfl ?_
  refine y_iload_n E dX11_behind_1 2 rfl ?_
  refine y_callr E (y_runV E (rest := []) (kX11_lift l w E.2.2.1 σ a2 _ hv) (y_cwV 1 E.1.2.2.2.2 wm_339 wm_348 wm_349 wm_116 wm_350 (by decide +kernel) (yRm_le (by decide) (by decide))) (Nat.lt_of_lt_of_le (show 0 < 1 by decide) (by decide)) (xc_X11 (by decide) (by decide)) rfl rfl rfl (Nat.le_of_ble_eq_true rfl) dX11_behind_2) (fun v1 u2 hk => ?_)
  clear hv
  have hv := hk
  clear hk
  obtain ⟨rfl, hv⟩ := hv
  refine y_astore_n (lv' := [(3, .ref (w.1 49)), (0, .ref (w.1 0)), (1, .int a1), (2, .int a2)]) E dX11_behind_5 (by decide) rfl ?_
  refine y_aload_n E dX11_behind_6 0 rfl ?_
  refine y_aload_n E dX11_behind_7 1 rfl ?_
  refine gf_X11_0 E (by decide) (by decide) wm_272 dX11_behind_8 ?_
  refine gf_X3_3 E (by decide) (by decide) wm_283 dX11_behind_11 ?_
  refine y_iload_n E dX11_behind_14 2 rfl ?_
  refine y_callv E (y_runV E (rest := []) (kX1_passAll l w E.2.2.1 u2 (u2 1 3) a1 _ hv) (y_cwV 2 E.1.2.2.2.2 wm_464 wm_465 wm_466 wm_98 wm_467 (by decide +kernel) (yRm_le (by decide) (by decide))) (Nat.lt_of_lt_of_le (show 49 < 50 by decide) (by decide)) (xc_X1 (by decide) (by decide)) rfl rfl rfl (Nat.le_of_ble_eq_true rfl) dX11_behind_15) (fun u4 hk => ?_)
  clear hv
  have hv := hk
  clear hk
  refine y_aload_n E dX11_behind_18 0 rfl ?_
  exact y_aret E dX11_behind_19 hv
theorem dX11_isBehind_0 : decode cX11_isBehind 0 = .ok (.iload_n 0, 1) := by decide +kernel
theorem dX11_isBehind_1 : decode cX11_isBehind 1 = .ok (.ifCond .lt 13, 3) := by decide +kernel
theorem dX11_isBehind_4 : decode cX11_isBehind 4 = .ok (.iload_n 0, 1) := by decide +kernel
theorem dX11_isBehind_5 : decode cX11_isBehind 5 = .ok (.bipush 40, 2) := by decide +kernel
theorem dX11_isBehind_7 : decode cX11_isBehind 7 = .ok (.if_icmp .gt 7, 3) := by decide +kernel
theorem dX11_isBehind_10 : decode cX11_isBehind 10 = .ok (.iconst 1, 1) := by decide +kernel
theorem dX11_isBehind_11 : decode cX11_isBehind 11 = .ok (.goto 4, 3) := by decide +kernel
theorem dX11_isBehind_14 : decode cX11_isBehind 14 = .ok (.iconst 0, 1) := by decide +kernel
theorem dX11_isBehind_15 : decode cX11_isBehind 15 = .ok (.ireturn, 1) := by decide +kernel
set_option maxRecDepth 100000 in
set_option maxHeartbeats 4000000 in
theorem kX11_isBehind (l : Launch) (w : wT) (hw : yOk w 55) (σ : Hp) (a1 : Int32) (K : Int32 → Hp → Prop) (hv : VX11_isBehind K σ a1) : yMet l w xcf 55 yX11_isBehind cX11_isBehind 1 (some .boolean) 1 [.int a1] σ (yQi w xcf 55 K) := by
  unfold VX11_isBehind at hv
  refine y_start (lv0 := [(0, .int a1)]) (by decide +kernel) (own := RX11) rfl hw (Nat.le_of_ble_eq_true rfl) rfl (fun p e s m below meth c A E => ?_)
  refine y_iload_n E dX11_isBehind_0 0 rfl ?_
  refine y_if_lt (tgt := 14) E dX11_isBehind_1 (by decide) (fun c1 => ?_) (fun c1 => ?_)
  · replace hv := ite_t hv c1
    refine y_iconst (v := 0) E dX11_isBehind_14 (by decide) ?_
    exact y_nret E dX11_isBehind_15 (by decide) hv
  · replace hv := ite_f hv c1
    refine y_iload_n E dX11_isBehind_4 0 rfl ?_
    refine y_bipush (v := 40) E dX11_isBehind_5 (by decide) ?_
    refine y_icmp_gt (tgt := 14) E dX11_isBehind_7 (by decide) (fun c2 => ?_) (fun c2 => ?_)
    · replace hv := ite_t hv c2
      refine y_iconst (v := 0) E dX11_isBehind_14 (by decide) ?_
      exact y_nret E dX11_isBehind_15 (by decide) hv
    · replace hv := ite_f hv c2
      refine y_iconst (v := 1) E dX11_isBehind_10 (by decide) ?_
      refine y_goto (tgt := 15) E dX11_isBehind_11 (by decide) ?_
      exact y_nret E dX11_isBehind_15 (by decide) hv
theorem dX11_isChoice_0 : decode cX11_isChoice 0 = .ok (.iload_n 0, 1) := by decide +kernel
theorem dX11_isChoice_1 : decode cX11_isChoice 1 = .ok (.ifCond .eq 8, 3) := by decide +kernel
theorem dX11_isChoice_4 : decode cX11_isChoice 4 = .ok (.iload_n 0, 1) := by decide +kernel
theorem dX11_isChoice_5 : decode cX11_isChoice 5 = .ok (.iconst 1, 1) := by decide +kernel
theorem dX11_isChoice_6 : decode cX11_isChoice 6 = .ok (.if_icmp .ne 7, 3) := by decide +kernel
theorem dX11_isChoice_9 : decode cX11_isChoice 9 = .ok (.iconst 1, 1) := by decide +kernel
theorem dX11_isChoice_10 : decode cX11_isChoice 10 = .ok (.goto 4, 3) := by decide +kernel
theorem dX11_isChoice_13 : decode cX11_isChoice 13 = .ok (.iconst 0, 1) := by decide +kernel
theorem dX11_isChoice_14 : decode cX11_isChoice 14 = .ok (.ireturn, 1) := by decide +kernel
set_option maxRecDepth 100000 in
set_option maxHeartbeats 4000000 in
theorem kX11_isChoice (l : Launch) (w : wT) (hw : yOk w 55) (σ : Hp) (a1 : Int32) (K : Int32 → Hp → Prop) (hv : VX11_isChoice K σ a1) : yMet l w xcf 55 yX11_isChoice cX11_isChoice 1 (some .boolean) 1 [.int a1] σ (yQi w xcf 55 K) := by
  unfold VX11_isChoice at hv
  refine y_start (lv0 := [(0, .int a1)]) (by decide +kernel) (own := RX11) rfl hw (Nat.le_of_ble_eq_true rfl) rfl (fun p e s m below meth c A E => ?_)
  refine y_iload_n E dX11_isChoice_0 0 rfl ?_
  refine y_if_eq (tgt := 9) E dX11_isChoice_1 (by decide) (fun c1 => ?_) (fun c1 => ?_)
  · replace hv := ite_t hv c1
    refine y_iconst (v := 1) E dX11_isChoice_9 (by decide) ?_
    refine y_goto (tgt := 14) E dX11_isChoice_10 (by decide) ?_
    exact y_nret E dX11_isChoice_14 (by decide) hv
  · replace hv := ite_f hv c1
    refine y_iload_n E dX11_isChoice_4 0 rfl ?_
    refine y_iconst (v := 1) E dX11_isChoice_5 (by decide) ?_
    refine y_icmp_ne (tgt := 13) E dX11_isChoice_6 (by decide) (fun c2 => ?_) (fun c2 => ?_)
    · replace hv := ite_f hv c2
      refine y_iconst (v := 0) E dX11_isChoice_13 (by decide) ?_
      exact y_nret E dX11_isChoice_14 (by decide) hv
    · replace hv := ite_t hv c2
      refine y_iconst (v := 1) E dX11_isChoice_9 (by decide) ?_
      refine y_goto (tgt := 14) E dX11_isChoice_10 (by decide) ?_
      exact y_nret E dX11_isChoice_14 (by decide) hv
theorem dX11_at_0 : decode cX11_at 0 = .ok (.iload_n 1, 1) := by decide +kernel
theorem dX11_at_1 : decode cX11_at 1 = .ok (.invokestatic 178, 3) := by decide +kernel
theorem dX11_at_4 : decode cX11_at 4 = .ok (.ifCond .eq 11, 3) := by decide +kernel
theorem dX11_at_7 : decode cX11_at 7 = .ok (.aload_n 0, 1) := by decide +kernel
theorem dX11_at_8 : decode cX11_at 8 = .ok (.iload_n 2, 1) := by decide +kernel
theorem dX11_at_9 : decode cX11_at 9 = .ok (.invokevirtual 175, 3) := by decide +kernel
theorem dX11_at_12 : decode cX11_at 12 = .ok (.ifCond .ne 6, 3) := by decide +kernel
theorem dX11_at_15 : decode cX11_at 15 = .ok (.bipush (-5), 2) := by decide +kernel
theorem dX11_at_17 : decode cX11_at 17 = .ok (.ireturn, 1) := by decide +kernel
theorem dX11_at_18 : decode cX11_at 18 = .ok (.iload_n 3, 1) := by decide +kernel
theorem dX11_at_19 : decode cX11_at 19 = .ok (.invokestatic 181, 3) := by decide +kernel
theorem dX11_at_22 : decode cX11_at 22 = .ok (.ifCond .ne 6, 3) := by decide +kernel
theorem dX11_at_25 : decode cX11_at 25 = .ok (.bipush (-7), 2) := by decide +kernel
theorem dX11_at_27 : decode cX11_at 27 = .ok (.ireturn, 1) := by decide +kernel
theorem dX11_at_28 : decode cX11_at 28 = .ok (.aload_n 0, 1) := by decide +kernel
theorem dX11_at_29 : decode cX11_at 29 = .ok (.iload_n 1, 1) := by decide +kernel
theorem dX11_at_30 : decode cX11_at 30 = .ok (.iload_n 2, 1) := by decide +kernel
theorem dX11_at_31 : decode cX11_at 31 = .ok (.invokevirtual 184, 3) := by decide +kernel
theorem dX11_at_34 : decode cX11_at 34 = .ok (.astore 4, 2) := by decide +kernel
theorem dX11_at_36 : decode cX11_at 36 = .ok (.iload_n 3, 1) := by decide +kernel
theorem dX11_at_37 : decode cX11_at 37 = .ok (.ifCond .ne 11, 3) := by decide +kernel
theorem dX11_at_40 : decode cX11_at 40 = .ok (.aload 4, 2) := by decide +kernel
theorem dX11_at_42 : decode cX11_at 42 = .ok (.getfield 188, 3) := by decide +kernel
theorem dX11_at_45 : decode cX11_at 45 = .ok (.goto 8, 3) := by decide +kernel
theorem dX11_at_48 : decode cX11_at 48 = .ok (.aload 4, 2) := by decide +kernel
theorem dX11_at_50 : decode cX11_at 50 = .ok (.getfield 191, 3) := by decide +kernel
theorem dX11_at_53 : decode cX11_at 53 = .ok (.ireturn, 1) := by decide +kernel
set_option maxRecDepth 100000 in
set_option maxHeartbeats 4000000 in
theorem kX11_at (l : Launch) (w : wT) (hw : yOk w 55) (σ : Hp) (a1 : Int32) (a2 : Int32) (a3 : Int32) (K : Int32 → Hp → Prop) (hv : VX11_at K σ a1 a2 a3) : yMet l w xcf 55 yX11_at cX11_at 5 (some .int) 6 [.ref (w.1 0), .int a1, .int a2, .int a3] σ (yQi w xcf 55 K) := by
  unfold VX11_at at hv
  refine y_start (lv0 := [(0, .ref (w.1 0)), (1, .int a1), (2, .int a2), (3, .int a3)]) (by decide +kernel) (own := RX11) rfl hw (Nat.le_of_ble_eq_true rfl) rfl (fun p e s m below meth c A E => ?_)
  refine y_iload_n E dX11_at_0 1 rfl ?_
  refine y_calli E (y_runS E (rest := []) (kX11_isBehind l w E.2.2.1 σ a1 _ hv) (y_cwS 1 E.1.2.2.2.2 wm_326 wm_336 wm_116 wm_337 (by decide +kernel) (yRm_le (by decide) (by decide))) rfl rfl (Nat.le_of_ble_eq_true rfl) dX11_at_1) (fun v1 u2 hk => ?_)
  clear hv
  have hv := hk
  clear hk
  refine y_if_eq (tgt := 15) E dX11_at_4 (by decide) (fun c3 => ?_) (fun c3 => ?_)
  · replace hv := ite_t hv c3
    refine y_bipush (v := (-5)) E dX11_at_15 (by decide) ?_
    exact y_iret E dX11_at_17 hv
  · replace hv := ite_f hv c3
    refine y_aload_n E dX11_at_7 0 rfl ?_
    refine y_iload_n E dX11_at_8 2 rfl ?_
    refine y_calli E (y_runV E (rest := []) (kX11_isThing l w E.2.2.1 u2 a2 _ hv) (y_cwV 1 E.1.2.2.2.2 wm_322 wm_323 wm_324 wm_116 wm_325 (by decide +kernel) (yRm_le (by decide) (by decide))) (Nat.lt_of_lt_of_le (show 0 < 1 by decide) (by decide)) (xc_X11 (by decide) (by decide)) rfl rfl rfl (Nat.le_of_ble_eq_true rfl) dX11_at_9) (fun v4 u5 hk => ?_)
    clear hv
    have hv := hk
    clear hk
    refine y_if_ne (tgt := 18) E dX11_at_12 (by decide) (fun c6 => ?_) (fun c6 => ?_)
    · replace hv := ite_f hv c6
      refine y_iload_n E dX11_at_18 3 rfl ?_
      refine y_calli E (y_runS E (rest := []) (kX11_isChoice l w E.2.2.1 u5 a3 _ hv) (y_cwS 1 E.1.2.2.2.2 wm_327 wm_334 wm_116 wm_335 (by decide +kernel) (yRm_le (by decide) (by decide))) rfl rfl (Nat.le_of_ble_eq_true rfl) dX11_at_19) (fun v7 u8 hk => ?_)
      clear hv
      have hv := hk
      clear hk
      refine y_if_ne (tgt := 28) E dX11_at_22 (by decide) (fun c9 => ?_) (fun c9 => ?_)
      · replace hv := ite_f hv c9
        refine y_aload_n E dX11_at_28 0 rfl ?_
        refine y_iload_n E dX11_at_29 1 rfl ?_
        refine y_iload_n E dX11_at_30 2 rfl ?_
        refine y_callr E (y_runV E (rest := []) (kX11_behind l w E.2.2.1 u8 a1 a2 _ hv) (y_cwV 2 E.1.2.2.2.2 wm_328 wm_331 wm_332 wm_116 wm_333 (by decide +kernel) (yRm_le (by decide) (by decide))) (Nat.lt_of_lt_of_le (show 0 < 1 by decide) (by decide)) (xc_X11 (by decide) (by decide)) rfl rfl rfl (Nat.le_of_ble_eq_true rfl) dX11_at_31) (fun v10 u11 hk => ?_)
        clear hv
        have hv := hk
        clear hk
        obtain ⟨rfl, hv⟩ := hv
        refine y_astore (lv' := [(4, .ref (w.1 49)), (0, .ref (w.1 0)), (1, .int a1), (2, .int a2), (3, .int a3)]) E dX11_at_34 (by decide) rfl ?_
        refine y_iload_n E dX11_at_36 4 rfl ?_
        refine y_if_ne (tgt := 48) E dX11_at_37 (by decide) (fun c12 => ?_) (fun c12 => ?_)
        · replace hv := ite_f hv c12
          refine y_aload E dX11_at_48 0 rfl ?_
          refine gf_X1_7 E (by decide) (by decide) wm_329 dX11_at_50 ?_
          exact y_iret E dX11_at_53 hv
        · replace hv := ite_t hv c12
          refine y_aload E dX11_at_40 0 rfl ?_
          refine gf_X1_6 E (by decide) (by decide) wm_330 dX11_at_42 ?_
          refine y_goto (tgt := 53) E dX11_at_45 (by decide) ?_
          exact y_iret E dX11_at_53 hv
      · replace hv := ite_t hv c9
        refine y_bipush (v := (-7)) E dX11_at_25 (by decide) ?_
        exact y_iret E dX11_at_27 hv
    · replace hv := ite_t hv c6
      refine y_bipush (v := (-5)) E dX11_at_15 (by decide) ?_
      exact y_iret E dX11_at_17 hv
theorem dX11_run_0 : decode cX11_run 0 = .ok (.iload_n 1, 1) := by decide +kernel
theorem dX11_run_1 : decode cX11_run 1 = .ok (.invokestatic 178, 3) := by decide +kernel
theorem dX11_run_4 : decode cX11_run 4 = .ok (.ifCond .ne 6, 3) := by decide +kernel
theorem dX11_run_7 : decode cX11_run 7 = .ok (.bipush (-2), 2) := by decide +kernel
theorem dX11_run_9 : decode cX11_run 9 = .ok (.ireturn, 1) := by decide +kernel
theorem dX11_run_10 : decode cX11_run 10 = .ok (.iconst 0, 1) := by decide +kernel
theorem dX11_run_11 : decode cX11_run 11 = .ok (.istore_n 2, 1) := by decide +kernel
theorem dX11_run_12 : decode cX11_run 12 = .ok (.iconst 0, 1) := by decide +kernel
theorem dX11_run_13 : decode cX11_run 13 = .ok (.istore_n 3, 1) := by decide +kernel
theorem dX11_run_14 : decode cX11_run 14 = .ok (.iload_n 3, 1) := by decide +kernel
theorem dX11_run_15 : decode cX11_run 15 = .ok (.aload_n 0, 1) := by decide +kernel
theorem dX11_run_16 : decode cX11_run 16 = .ok (.getfield 12, 3) := by decide +kernel
theorem dX11_run_19 : decode cX11_run 19 = .ok (.getfield 122, 3) := by decide +kernel
theorem dX11_run_22 : decode cX11_run 22 = .ok (.if_icmp .ge 62, 3) := by decide +kernel
theorem dX11_run_25 : decode cX11_run 25 = .ok (.aload_n 0, 1) := by decide +kernel
theorem dX11_run_26 : decode cX11_run 26 = .ok (.iload_n 1, 1) := by decide +kernel
theorem dX11_run_27 : decode cX11_run 27 = .ok (.iload_n 3, 1) := by decide +kernel
theorem dX11_run_28 : decode cX11_run 28 = .ok (.invokevirtual 184, 3) := by decide +kernel
theorem dX11_run_31 : decode cX11_run 31 = .ok (.astore 4, 2) := by decide +kernel
theorem dX11_run_33 : decode cX11_run 33 = .ok (.aload_n 0, 1) := by decide +kernel
theorem dX11_run_34 : decode cX11_run 34 = .ok (.getfield 12, 3) := by decide +kernel
theorem dX11_run_37 : decode cX11_run 37 = .ok (.getfield 169, 3) := by decide +kernel
theorem dX11_run_40 : decode cX11_run 40 = .ok (.iload_n 3, 1) := by decide +kernel
theorem dX11_run_41 : decode cX11_run 41 = .ok (.aload 4, 2) := by decide +kernel
theorem dX11_run_43 : decode cX11_run 43 = .ok (.getfield 188, 3) := by decide +kernel
theorem dX11_run_46 : decode cX11_run 46 = .ok (.iastore, 1) := by decide +kernel
theorem dX11_run_47 : decode cX11_run 47 = .ok (.aload_n 0, 1) := by decide +kernel
theorem dX11_run_48 : decode cX11_run 48 = .ok (.getfield 12, 3) := by decide +kernel
theorem dX11_run_51 : decode cX11_run 51 = .ok (.getfield 172, 3) := by decide +kernel
theorem dX11_run_54 : decode cX11_run 54 = .ok (.iload_n 3, 1) := by decide +kernel
theorem dX11_run_55 : decode cX11_run 55 = .ok (.aload 4, 2) := by decide +kernel
theorem dX11_run_57 : decode cX11_run 57 = .ok (.getfield 191, 3) := by decide +kernel
theorem dX11_run_60 : decode cX11_run 60 = .ok (.iastore, 1) := by decide +kernel
theorem dX11_run_61 : decode cX11_run 61 = .ok (.iload_n 2, 1) := by decide +kernel
theorem dX11_run_62 : decode cX11_run 62 = .ok (.aload 4, 2) := by decide +kernel
theorem dX11_run_64 : decode cX11_run 64 = .ok (.getfield 191, 3) := by decide +kernel
theorem dX11_run_67 : decode cX11_run 67 = .ok (.iconst 4, 1) := by decide +kernel
theorem dX11_run_68 : decode cX11_run 68 = .ok (.if_icmp .ne 7, 3) := by decide +kernel
theorem dX11_run_71 : decode cX11_run 71 = .ok (.iconst 1, 1) := by decide +kernel
theorem dX11_run_72 : decode cX11_run 72 = .ok (.goto 4, 3) := by decide +kernel
theorem dX11_run_75 : decode cX11_run 75 = .ok (.iconst 0, 1) := by decide +kernel
theorem dX11_run_76 : decode cX11_run 76 = .ok (.iadd, 1) := by decide +kernel
theorem dX11_run_77 : decode cX11_run 77 = .ok (.istore_n 2, 1) := by decide +kernel
theorem dX11_run_78 : decode cX11_run 78 = .ok (.iinc 3 1, 3) := by decide +kernel
theorem dX11_run_81 : decode cX11_run 81 = .ok (.goto (-67), 3) := by decide +kernel
theorem dX11_run_84 : decode cX11_run 84 = .ok (.aload_n 0, 1) := by decide +kernel
theorem dX11_run_85 : decode cX11_run 85 = .ok (.getfield 12, 3) := by decide +kernel
theorem dX11_run_88 : decode cX11_run 88 = .ok (.aload_n 0, 1) := by decide +kernel
theorem dX11_run_89 : decode cX11_run 89 = .ok (.getfield 12, 3) := by decide +kernel
theorem dX11_run_92 : decode cX11_run 92 = .ok (.getfield 119, 3) := by decide +kernel
theorem dX11_run_95 : decode cX11_run 95 = .ok (.iload_n 1, 1) := by decide +kernel
theorem dX11_run_96 : decode cX11_run 96 = .ok (.iadd, 1) := by decide +kernel
theorem dX11_run_97 : decode cX11_run 97 = .ok (.bipush 99, 2) := by decide +kernel
theorem dX11_run_99 : decode cX11_run 99 = .ok (.invokestatic 194, 3) := by decide +kernel
theorem dX11_run_102 : decode cX11_run 102 = .ok (.putfield 119, 3) := by decide +kernel
theorem dX11_run_105 : decode cX11_run 105 = .ok (.iload_n 2, 1) := by decide +kernel
theorem dX11_run_106 : decode cX11_run 106 = .ok (.ireturn, 1) := by decide +kernel
set_option maxRecDepth 100000 in
set_option maxHeartbeats 4000000 in
theorem kX11_run (l : Launch) (w : wT) (hw : yOk w 55) (σ : Hp) (a1 : Int32) (K : Int32 → Hp → Prop) (hv : VX11_run K σ a1) : yMet l w xcf 55 yX11_run cX11_run 5 (some .int) 6 [.ref (w.1 0), .int a1] σ (yQi w xcf 55 K) := by
  unfold VX11_run at hv
  refine y_start (lv0 := [(0, .ref (w.1 0)), (1, .int a1)]) (by decide +kernel) (own := RX11) rfl hw (Nat.le_of_ble_eq_true rfl) rfl (fun p e s m below meth c A E => ?_)
  have hL14 : ∀ (n14 : Nat) (σ : Hp) (l1 : Int32) (l2 : Int32) (l3 : Int32), VX11_run_L14 K n14 σ l1 l2 l3 → YY p l e (yRm 6) s m [.ref (w.1 0), .int a1].toArray below meth c w xcf 55 A (MQ below (yQi w xcf 55 K A) [.ref (w.1 0), .int a1].toArray s 0 0 A) 5 σ 14 [(0, .ref (w.1 0)), (1, .int l1), (2, .int l2), (3, .int l3)] [] := by
    intro n14
    induction n14 with
    | zero => exact fun _ _ _ _ hv => (by unfold VX11_run_L14 at hv; exact hv.elim)
    | succ n14 ih14 =>
      intro σ l1 l2 l3 hv
      unfold VX11_run_L14 at hv
      refine y_iload_n E dX11_run_14 3 rfl ?_
      refine y_aload_n E dX11_run_15 0 rfl ?_
      refine gf_X11_0 E (by decide) (by decide) wm_272 dX11_run_16 ?_
      refine gf_X3_5 E (by decide) (by decide) wm_286 dX11_run_19 ?_
      refine y_icmp_ge (tgt := 84) E dX11_run_22 (by decide) (fun c4 => ?_) (fun c4 => ?_)
      · replace hv := ite_t hv c4
        refine y_aload_n E dX11_run_84 0 rfl ?_
        refine gf_X11_0 E (by decide) (by decide) wm_272 dX11_run_85 ?_
        refine y_aload_n E dX11_run_88 0 rfl ?_
        refine gf_X11_0 E (by decide) (by decide) wm_272 dX11_run_89 ?_
        refine gf_X3_3 E (by decide) (by decide) wm_283 dX11_run_92 ?_
        refine y_iload_n E dX11_run_95 1 rfl ?_
        refine y_iadd E dX11_run_96 ?_
        refine y_bipush (v := 99) E dX11_run_97 (by decide) ?_
        refine y_mmin E wm_338 wm_257 wm_243 wm_258 (by decide) (Nat.le_of_ble_eq_true rfl) dX11_run_99 ?_
        refine pf_X3_3 E (by decide) (by decide) wm_283 dX11_run_102 ?_
        refine y_nmH (fun u5 hu5 => ?_)
        replace hv := hv u5 hu5
        refine y_iload_n E dX11_run_105 2 rfl ?_
        exact y_iret E dX11_run_106 hv
      · replace hv := ite_f hv c4
        refine y_aload_n E dX11_run_25 0 rfl ?_
        refine y_iload_n E dX11_run_26 1 rfl ?_
        refine y_iload_n E dX11_run_27 3 rfl ?_
        refine y_callr E (y_runV E (rest := []) (kX11_behind l w E.2.2.1 σ l1 l3 _ hv) (y_cwV 2 E.1.2.2.2.2 wm_328 wm_331 wm_332 wm_116 wm_333 (by decide +kernel) (yRm_le (by decide) (by decide))) (Nat.lt_of_lt_of_le (show 0 < 1 by decide) (by decide)) (xc_X11 (by decide) (by decide)) rfl rfl rfl (Nat.le_of_ble_eq_true rfl) dX11_run_28) (fun v6 u7 hk => ?_)
        clear hv
        have hv := hk
        clear hk
        obtain ⟨rfl, hv⟩ := hv
        refine y_astore (lv' := [(4, .ref (w.1 49)), (0, .ref (w.1 0)), (1, .int l1), (2, .int l2), (3, .int l3)]) E dX11_run_31 (by decide) rfl ?_
        refine y_aload_n E dX11_run_33 1 rfl ?_
        refine gf_X11_0 E (by decide) (by decide) wm_272 dX11_run_34 ?_
        refine gf_X3_8 (q := 5) E (by decide) (by decide) rfl wm_315 dX11_run_37 ?_
        refine y_iload_n E dX11_run_40 4 rfl ?_
        refine y_aload E dX11_run_41 0 rfl ?_
        refine gf_X1_6 E (by decide) (by decide) wm_330 dX11_run_43 ?_
        obtain ⟨hi, hv⟩ := hv
        refine y_iast E (Nat.lt_of_lt_of_le (show 5 < 11 by decide) (by decide)) (fun _ => xc_harr (by decide) (by decide)) hi dX11_run_46 ?_
        refine y_nmH (fun u8 hu8 => ?_)
        replace hv := hv u8 hu8
        refine y_aload_n E dX11_run_47 1 rfl ?_
        refine gf_X11_0 E (by decide) (by decide) wm_272 dX11_run_48 ?_
        refine gf_X3_9 (q := 6) E (by decide) (by decide) rfl wm_316 dX11_run_51 ?_
        refine y_iload_n E dX11_run_54 4 rfl ?_
        refine y_aload E dX11_run_55 0 rfl ?_
        refine gf_X1_7 E (by decide) (by decide) wm_329 dX11_run_57 ?_
        obtain ⟨hi, hv⟩ := hv
        refine y_iast E (Nat.lt_of_lt_of_le (show 6 < 11 by decide) (by decide)) (fun _ => xc_harr (by decide) (by decide)) hi dX11_run_60 ?_
        refine y_nmH (fun u9 hu9 => ?_)
        replace hv := hv u9 hu9
        refine y_iload_n E dX11_run_61 3 rfl ?_
        refine y_aload E dX11_run_62 0 rfl ?_
        refine gf_X1_7 E (by decide) (by decide) wm_329 dX11_run_64 ?_
        refine y_iconst (v := 4) E dX11_run_67 (by decide) ?_
        refine y_icmp_ne (tgt := 75) E dX11_run_68 (by decide) (fun c10 => ?_) (fun c10 => ?_)
        · replace hv := ite_f hv c10
          refine y_iconst (v := 0) E dX11_run_75 (by decide) ?_
          refine y_iadd E dX11_run_76 ?_
          refine y_nmi (fun x11 hx11 => ?_)
          replace hv := hv x11 hx11
          refine y_istore_n (lv' := [(2, .int x11), (4, .ref (w.1 49)), (0, .ref (w.1 0)), (1, .int l1), (3, .int l3)]) E dX11_run_77 (by decide) rfl ?_
          obtain ⟨x12, hx12⟩ : ∃ z : Int32, z = l3 + 1 := ⟨_, rfl⟩
          replace hv := hv x12 hx12
          refine y_iinc (v := x12) (lv' := [(3, .int x12), (2, .int x11), (4, .ref (w.1 49)), (0, .ref (w.1 0)), (1, .int l1)]) E dX11_run_78 4 rfl (by rw [hx12]; rfl) (by decide) rfl ?_
          refine y_goto (tgt := 14) E dX11_run_81 (by decide) ?_
          refine y_lv (lv' := [(0, .ref (w.1 0)), (1, .int l1), (2, .int x11), (3, .int x12)]) [3, 4, 1, 0] rfl ?_
          exact ih14 u9 l1 x11 x12 hv
        · replace hv := ite_t hv c10
          refine y_iconst (v := 1) E dX11_run_71 (by decide) ?_
          refine y_goto (tgt := 76) E dX11_run_72 (by decide) ?_
          refine y_iadd E dX11_run_76 ?_
          refine y_nmi (fun x13 hx13 => ?_)
          replace hv := hv x13 hx13
          refine y_istore_n (lv' := [(2, .int x13), (4, .ref (w.1 49)), (0, .ref (w.1 0)), (1, .int l1), (3, .int l3)]) E dX11_run_77 (by decide) rfl ?_
          obtain ⟨x14, hx14⟩ : ∃ z : Int32, z = l3 + 1 := ⟨_, rfl⟩
          replace hv := hv x14 hx14
          refine y_iinc (v := x14) (lv' := [(3, .int x14), (2, .int x13), (4, .ref (w.1 49)), (0, .ref (w.1 0)), (1, .int l1)]) E dX11_run_78 4 rfl (by rw [hx14]; rfl) (by decide) rfl ?_
          refine y_goto (tgt := 14) E dX11_run_81 (by decide) ?_
          refine y_lv (lv' := [(0, .ref (w.1 0)), (1, .int l1), (2, .int x13), (3, .int x14)]) [3, 4, 1, 0] rfl ?_
          exact ih14 u9 l1 x13 x14 hv
  refine y_iload_n E dX11_run_0 1 rfl ?_
  refine y_calli E (y_runS E (rest := []) (kX11_isBehind l w E.2.2.1 σ a1 _ hv) (y_cwS 1 E.1.2.2.2.2 wm_326 wm_336 wm_116 wm_337 (by decide +kernel) (yRm_le (by decide) (by decide))) rfl rfl (Nat.le_of_ble_eq_true rfl) dX11_run_1) (fun v1 u2 hk => ?_)
  clear hv
  have hv := hk
  clear hk
  refine y_if_ne (tgt := 10) E dX11_run_4 (by decide) (fun c3 => ?_) (fun c3 => ?_)
  · replace hv := ite_f hv c3
    refine y_iconst (v := 0) E dX11_run_10 (by decide) ?_
    refine y_istore_n (lv' := [(2, .int 0), (0, .ref (w.1 0)), (1, .int a1)]) E dX11_run_11 (by decide) rfl ?_
    refine y_iconst (v := 0) E dX11_run_12 (by decide) ?_
    refine y_istore_n (lv' := [(3, .int 0), (2, .int 0), (0, .ref (w.1 0)), (1, .int a1)]) E dX11_run_13 (by decide) rfl ?_
    refine y_lv (lv' := [(0, .ref (w.1 0)), (1, .int a1), (2, .int 0), (3, .int 0)]) [2, 3, 1, 0] rfl ?_
    obtain ⟨n0, hv⟩ := hv
    exact hL14 n0 u2 a1 0 0 hv
  · replace hv := ite_t hv c3
    refine y_bipush (v := (-2)) E dX11_run_7 (by decide) ?_
    exact y_iret E dX11_run_9 hv
theorem dX11_firstIn_0 : decode cX11_firstIn 0 = .ok (.iconst 0, 1) := by decide +kernel
theorem dX11_firstIn_1 : decode cX11_firstIn 1 = .ok (.istore_n 2, 1) := by decide +kernel
theorem dX11_firstIn_2 : decode cX11_firstIn 2 = .ok (.iload_n 2, 1) := by decide +kernel
theorem dX11_firstIn_3 : decode cX11_firstIn 3 = .ok (.bipush 40, 2) := by decide +kernel
theorem dX11_firstIn_5 : decode cX11_firstIn 5 = .ok (.if_icmp .gt 21, 3) := by decide +kernel
theorem dX11_firstIn_8 : decode cX11_firstIn 8 = .ok (.aload_n 0, 1) := by decide +kernel
theorem dX11_firstIn_9 : decode cX11_firstIn 9 = .ok (.getfield 53, 3) := by decide +kernel
theorem dX11_firstIn_12 : decode cX11_firstIn 12 = .ok (.iload_n 2, 1) := by decide +kernel
theorem dX11_firstIn_13 : decode cX11_firstIn 13 = .ok (.iaload, 1) := by decide +kernel
theorem dX11_firstIn_14 : decode cX11_firstIn 14 = .ok (.iload_n 1, 1) := by decide +kernel
theorem dX11_firstIn_15 : decode cX11_firstIn 15 = .ok (.if_icmp .ne 5, 3) := by decide +kernel
theorem dX11_firstIn_18 : decode cX11_firstIn 18 = .ok (.iload_n 2, 1) := by decide +kernel
theorem dX11_firstIn_19 : decode cX11_firstIn 19 = .ok (.ireturn, 1) := by decide +kernel
theorem dX11_firstIn_20 : decode cX11_firstIn 20 = .ok (.iinc 2 1, 3) := by decide +kernel
theorem dX11_firstIn_23 : decode cX11_firstIn 23 = .ok (.goto (-21), 3) := by decide +kernel
theorem dX11_firstIn_26 : decode cX11_firstIn 26 = .ok (.iconst (-1), 1) := by decide +kernel
theorem dX11_firstIn_27 : decode cX11_firstIn 27 = .ok (.ireturn, 1) := by decide +kernel
set_option maxRecDepth 100000 in
set_option maxHeartbeats 4000000 in
theorem kX11_firstIn (l : Launch) (w : wT) (hw : yOk w 55) (σ : Hp) (a1 : Int32) (K : Int32 → Hp → Prop) (hv : VX11_firstIn K σ a1) : yMet l w xcf 55 yX11_firstIn cX11_firstIn 3 (some .int) 1 [.ref (w.1 0), .int a1] σ (yQi w xcf 55 K) := by
  unfold VX11_firstIn at hv
  refine y_start (lv0 := [(0, .ref (w.1 0)), (1, .int a1)]) (by decide +kernel) (own := RX11) rfl hw (Nat.le_of_ble_eq_true rfl) rfl (fun p e s m below meth c A E => ?_)
  have hL2 : ∀ (n2 : Nat) (σ : Hp) (l1 : Int32) (l2 : Int32), VX11_firstIn_L2 K n2 σ l1 l2 → YY p l e (yRm 1) s m [.ref (w.1 0), .int a1].toArray below meth c w xcf 55 A (MQ below (yQi w xcf 55 K A) [.ref (w.1 0), .int a1].toArray s 0 0 A) 3 σ 2 [(0, .ref (w.1 0)), (1, .int l1), (2, .int l2)] [] := by
    intro n2
    induction n2 with
    | zero => exact fun _ _ _ hv => (by unfold VX11_firstIn_L2 at hv; exact hv.elim)
    | succ n2 ih2 =>
      intro σ l1 l2 hv
      unfold VX11_firstIn_L2 at hv
      refine y_iload_n E dX11_firstIn_2 2 rfl ?_
      refine y_bipush (v := 40) E dX11_firstIn_3 (by decide) ?_
      refine y_icmp_gt (tgt := 26) E dX11_firstIn_5 (by decide) (fun c1 => ?_) (fun c1 => ?_)
      · replace hv := ite_t hv c1
        refine y_iconst (v := (-1)) E dX11_firstIn_26 (by decide) ?_
        exact y_iret E dX11_firstIn_27 hv
      · replace hv := ite_f hv c1
        refine y_aload_n E dX11_firstIn_8 0 rfl ?_
        refine gf_X11_9 E (by decide) (by decide) wm_351 dX11_firstIn_9 ?_
        refine y_iload_n E dX11_firstIn_12 2 rfl ?_
        obtain ⟨hi, hv⟩ := hv
        refine y_iald E (Nat.lt_of_lt_of_le (show 50 < 51 by decide) (by decide)) (xc_path (by decide) (by decide)) hi dX11_firstIn_13 ?_
        refine y_iload_n E dX11_firstIn_14 1 rfl ?_
        refine y_icmp_ne (tgt := 20) E dX11_firstIn_15 (by decide) (fun c2 => ?_) (fun c2 => ?_)
        · replace hv := ite_f hv c2
          obtain ⟨x3, hx3⟩ : ∃ z : Int32, z = l2 + 1 := ⟨_, rfl⟩
          replace hv := hv x3 hx3
          refine y_iinc (v := x3) (lv' := [(2, .int x3), (0, .ref (w.1 0)), (1, .int l1)]) E dX11_firstIn_20 2 rfl (by rw [hx3]; rfl) (by decide) rfl ?_
          refine y_goto (tgt := 2) E dX11_firstIn_23 (by decide) ?_
          refine y_lv (lv' := [(0, .ref (w.1 0)), (1, .int l1), (2, .int x3)]) [1, 2, 0] rfl ?_
          exact ih2 σ l1 x3 hv
        · replace hv := ite_t hv c2
          refine y_iload_n E dX11_firstIn_18 2 rfl ?_
          exact y_iret E dX11_firstIn_19 hv
  refine y_iconst (v := 0) E dX11_firstIn_0 (by decide) ?_
  refine y_istore_n (lv' := [(2, .int 0), (0, .ref (w.1 0)), (1, .int a1)]) E dX11_firstIn_1 (by decide) rfl ?_
  refine y_lv (lv' := [(0, .ref (w.1 0)), (1, .int a1), (2, .int 0)]) [1, 2, 0] rfl ?_
  obtain ⟨n0, hv⟩ := hv
  exact hL2 n0 σ a1 0 hv
theorem dX11_turned_0 : decode cX11_turned 0 = .ok (.iload_n 0, 1) := by decide +kernel
theorem dX11_turned_1 : decode cX11_turned 1 = .ok (.iconst 4, 1) := by decide +kernel
theorem dX11_turned_2 : decode cX11_turned 2 = .ok (.if_icmp .ne 7, 3) := by decide +kernel
theorem dX11_turned_5 : decode cX11_turned 5 = .ok (.iconst 4, 1) := by decide +kernel
theorem dX11_turned_6 : decode cX11_turned 6 = .ok (.goto 8, 3) := by decide +kernel
theorem dX11_turned_9 : decode cX11_turned 9 = .ok (.iload_n 0, 1) := by decide +kernel
theorem dX11_turned_10 : decode cX11_turned 10 = .ok (.iconst 1, 1) := by decide +kernel
theorem dX11_turned_11 : decode cX11_turned 11 = .ok (.iadd, 1) := by decide +kernel
theorem dX11_turned_12 : decode cX11_turned 12 = .ok (.iconst 4, 1) := by decide +kernel
theorem dX11_turned_13 : decode cX11_turned 13 = .ok (.irem, 1) := by decide +kernel
theorem dX11_turned_14 : decode cX11_turned 14 = .ok (.ireturn, 1) := by decide +kernel
set_option maxRecDepth 100000 in
set_option maxHeartbeats 4000000 in
theorem kX11_turned (l : Launch) (w : wT) (hw : yOk w 55) (σ : Hp) (a1 : Int32) (K : Int32 → Hp → Prop) (hv : VX11_turned K σ a1) : yMet l w xcf 55 yX11_turned cX11_turned 1 (some .int) 1 [.int a1] σ (yQi w xcf 55 K) := by
  unfold VX11_turned at hv
  refine y_start (lv0 := [(0, .int a1)]) (by decide +kernel) (own := RX11) rfl hw (Nat.le_of_ble_eq_true rfl) rfl (fun p e s m below meth c A E => ?_)
  refine y_iload_n E dX11_turned_0 0 rfl ?_
  refine y_iconst (v := 4) E dX11_turned_1 (by decide) ?_
  refine y_icmp_ne (tgt := 9) E dX11_turned_2 (by decide) (fun c1 => ?_) (fun c1 => ?_)
  · replace hv := ite_f hv c1
    refine y_iload_n E dX11_turned_9 0 rfl ?_
    refine y_iconst (v := 1) E dX11_turned_10 (by decide) ?_
    refine y_iadd E dX11_turned_11 ?_
    refine y_iconst (v := 4) E dX11_turned_12 (by decide) ?_
    refine y_irem E dX11_turned_13 (by decide) ?_
    exact y_iret E dX11_turned_14 hv
  · replace hv := ite_t hv c1
    refine y_iconst (v := 4) E dX11_turned_5 (by decide) ?_
    refine y_goto (tgt := 14) E dX11_turned_6 (by decide) ?_
    exact y_iret E dX11_turned_14 hv
theorem dX11_followTurned_0 : decode cX11_followTurned 0 = .ok (.iconst 0, 1) := by decide +kernel
theorem dX11_followTurned_1 : decode cX11_followTurned 1 = .ok (.istore_n 3, 1) := by decide +kernel
theorem dX11_followTurned_2 : decode cX11_followTurned 2 = .ok (.iload_n 3, 1) := by decide +kernel
theorem dX11_followTurned_3 : decode cX11_followTurned 3 = .ok (.bipush 40, 2) := by decide +kernel
theorem dX11_followTurned_5 : decode cX11_followTurned 5 = .ok (.if_icmp .gt 48, 3) := by decide +kernel
theorem dX11_followTurned_8 : decode cX11_followTurned 8 = .ok (.aload_n 0, 1) := by decide +kernel
theorem dX11_followTurned_9 : decode cX11_followTurned 9 = .ok (.getfield 53, 3) := by decide +kernel
theorem dX11_followTurned_12 : decode cX11_followTurned 12 = .ok (.iload_n 3, 1) := by decide +kernel
theorem dX11_followTurned_13 : decode cX11_followTurned 13 = .ok (.aload_n 1, 1) := by decide +kernel
theorem dX11_followTurned_14 : decode cX11_followTurned 14 = .ok (.getfield 188, 3) := by decide +kernel
theorem dX11_followTurned_17 : decode cX11_followTurned 17 = .ok (.iastore, 1) := by decide +kernel
theorem dX11_followTurned_18 : decode cX11_followTurned 18 = .ok (.iload_n 3, 1) := by decide +kernel
theorem dX11_followTurned_19 : decode cX11_followTurned 19 = .ok (.iload_n 2, 1) := by decide +kernel
theorem dX11_followTurned_20 : decode cX11_followTurned 20 = .ok (.if_icmp .ne 14, 3) := by decide +kernel
theorem dX11_followTurned_23 : decode cX11_followTurned 23 = .ok (.aload_n 1, 1) := by decide +kernel
theorem dX11_followTurned_24 : decode cX11_followTurned 24 = .ok (.aload_n 1, 1) := by decide +kernel
theorem dX11_followTurned_25 : decode cX11_followTurned 25 = .ok (.getfield 191, 3) := by decide +kernel
theorem dX11_followTurned_28 : decode cX11_followTurned 28 = .ok (.invokestatic 226, 3) := by decide +kernel
theorem dX11_followTurned_31 : decode cX11_followTurned 31 = .ok (.putfield 191, 3) := by decide +kernel
theorem dX11_followTurned_34 : decode cX11_followTurned 34 = .ok (.aload_n 1, 1) := by decide +kernel
theorem dX11_followTurned_35 : decode cX11_followTurned 35 = .ok (.aload_n 0, 1) := by decide +kernel
theorem dX11_followTurned_36 : decode cX11_followTurned 36 = .ok (.getfield 12, 3) := by decide +kernel
theorem dX11_followTurned_39 : decode cX11_followTurned 39 = .ok (.getfield 119, 3) := by decide +kernel
theorem dX11_followTurned_42 : decode cX11_followTurned 42 = .ok (.iload_n 3, 1) := by decide +kernel
theorem dX11_followTurned_43 : decode cX11_followTurned 43 = .ok (.iadd, 1) := by decide +kernel
theorem dX11_followTurned_44 : decode cX11_followTurned 44 = .ok (.invokevirtual 211, 3) := by decide +kernel
theorem dX11_followTurned_47 : decode cX11_followTurned 47 = .ok (.iinc 3 1, 3) := by decide +kernel
theorem dX11_followTurned_50 : decode cX11_followTurned 50 = .ok (.goto (-48), 3) := by decide +kernel
theorem dX11_followTurned_53 : decode cX11_followTurned 53 = .ok (.return_, 1) := by decide +kernel
set_option maxRecDepth 100000 in
set_option maxHeartbeats 4000000 in
theorem kX11_followTurned (l : Launch) (w : wT) (hw : yOk w 55) (σ : Hp) (a1 : Nat) (a2 : Int32) (K : Hp → Prop) (hv : VX11_followTurned K σ a1 a2) : yMet l w xcf 55 yX11_followTurned cX11_followTurned 4 none 4 [.ref (w.1 0), .ref (w.1 49), .int a2] σ (yQv w xcf 55 K) := by
  unfold VX11_followTurned at hv
  refine y_start (lv0 := [(0, .ref (w.1 0)), (1, .ref (w.1 49)), (2, .int a2)]) (by decide +kernel) (own := RX11) rfl hw (Nat.le_of_ble_eq_true rfl) rfl (fun p e s m below meth c A E => ?_)
  obtain ⟨None, hv⟩ := hv
  have hL2 : ∀ (n2 : Nat) (σ : Hp) (l2 : Int32) (l3 : Int32), VX11_followTurned_L2 K a1 n2 σ l2 l3 → YY p l e (yRm 4) s m [.ref (w.1 0), .ref (w.1 49), .int a2].toArray below meth c w xcf 55 A (MQ below (yQv w xcf 55 K A) [.ref (w.1 0), .ref (w.1 49), .int a2].toArray s 0 0 A) 4 σ 2 [(0, .ref (w.1 0)), (1, .ref (w.1 49)), (2, .int l2), (3, .int l3)] [] := by
    intro n2
    induction n2 with
    | zero => exact fun _ _ _ hv => (by unfold VX11_followTurned_L2 at hv; exact hv.elim)
    | succ n2 ih2 =>
      have hb34 : ∀ (σ : Hp) (l2 : Int32) (l3 : Int32), VX11_followTurned_b34 K (VX11_followTurned_L2 K a1 n2) a1 σ l2 l3 → YY p l e (yRm 4) s m [.ref (w.1 0), .ref (w.1 49), .int a2].toArray below meth c w xcf 55 A (MQ below (yQv w xcf 55 K A) [.ref (w.1 0), .ref (w.1 49), .int a2].toArray s 0 0 A) 4 σ 34 [(0, .ref (w.1 0)), (1, .ref (w.1 49)), (2, .int l2), (3, .int l3)] [] := by
        intro σ l2 l3 hv
        unfold VX11_followTurned_b34 at hv
        refine y_aload_n E dX11_followTurned_34 1 rfl ?_
        refine y_aload_n E dX11_followTurned_35 0 rfl ?_
        refine gf_X11_0 E (by decide) (by decide) wm_272 dX11_followTurned_36 ?_
        refine gf_X3_3 E (by decide) (by decide) wm_283 dX11_followTurned_39 ?_
        refine y_iload_n E dX11_followTurned_42 3 rfl ?_
        refine y_iadd E dX11_followTurned_43 ?_
        refine y_callv E (y_runV E (rest := []) (kX1_pass l w E.2.2.1 σ ((σ 1 3) + l3) _ hv) (y_cwV 1 E.1.2.2.2.2 wm_352 wm_96 wm_97 wm_98 wm_99 (by decide +kernel) (yRm_le (by decide) (by decide))) (Nat.lt_of_lt_of_le (show 49 < 50 by decide) (by decide)) (xc_X1 (by decide) (by decide)) rfl rfl rfl (Nat.le_of_ble_eq_true rfl) dX11_followTurned_44) (fun u8 hk => ?_)
        clear hv
        have hv := hk
        clear hk
        obtain ⟨x9, hx9⟩ : ∃ z : Int32, z = l3 + 1 := ⟨_, rfl⟩
        replace hv := hv x9 hx9
        refine y_iinc (v := x9) (lv' := [(3, .int x9), (0, .ref (w.1 0)), (1, .ref (w.1 49)), (2, .int l2)]) E dX11_followTurned_47 3 rfl (by rw [hx9]; rfl) (by decide) rfl ?_
        refine y_goto (tgt := 2) E dX11_followTurned_50 (by decide) ?_
        refine y_lv (lv' := [(0, .ref (w.1 0)), (1, .ref (w.1 49)), (2, .int l2), (3, .int x9)]) [1, 2, 3, 0] rfl ?_
        exact ih2 u8 l2 x9 hv
      intro σ l2 l3 hv
      unfold VX11_followTurned_L2 at hv
      refine y_iload_n E dX11_followTurned_2 3 rfl ?_
      refine y_bipush (v := 40) E dX11_followTurned_3 (by decide) ?_
      refine y_icmp_gt (tgt := 53) E dX11_followTurned_5 (by decide) (fun c1 => ?_) (fun c1 => ?_)
      · replace hv := ite_t hv c1
        exact y_vret E dX11_followTurned_53 hv
      · replace hv := ite_f hv c1
        refine y_aload_n E dX11_followTurned_8 0 rfl ?_
        refine gf_X11_9 E (by decide) (by decide) wm_351 dX11_followTurned_9 ?_
        refine y_iload_n E dX11_followTurned_12 3 rfl ?_
        refine y_aload_n E dX11_followTurned_13 1 rfl ?_
        refine gf_X1_6 E (by decide) (by decide) wm_330 dX11_followTurned_14 ?_
        obtain ⟨hi, hv⟩ := hv
        refine y_iast E (Nat.lt_of_lt_of_le (show 50 < 51 by decide) (by decide)) (fun _ => xc_path (by decide) (by decide)) hi dX11_followTurned_17 ?_
        refine y_nmH (fun u2 hu2 => ?_)
        replace hv := hv u2 hu2
        refine y_iload_n E dX11_followTurned_18 3 rfl ?_
        refine y_iload_n E dX11_followTurned_19 2 rfl ?_
        refine y_icmp_ne (tgt := 34) E dX11_followTurned_20 (by decide) (fun c3 => ?_) (fun c3 => ?_)
        · replace hv := ite_f hv c3
          exact hb34 u2 l2 l3 hv
        · replace hv := ite_t hv c3
          refine y_aload_n E dX11_followTurned_23 1 rfl ?_
          refine y_aload_n E dX11_followTurned_24 1 rfl ?_
          refine gf_X1_7 E (by decide) (by decide) wm_329 dX11_followTurned_25 ?_
          refine y_calli E (y_runS E (rest := [.ref (w.1 49)]) (kX11_turned l w E.2.2.1 u2 (u2 49 7) _ hv) (y_cwS 1 E.1.2.2.2.2 wm_369 wm_370 wm_116 wm_371 (by decide +kernel) (yRm_le (by decide) (by decide))) rfl rfl (Nat.le_of_ble_eq_true rfl) dX11_followTurned_28) (fun v4 u5 hk => ?_)
          clear hv
          have hv := hk
          clear hk
          refine pf_X1_7 E (by decide) (by decide) wm_329 dX11_followTurned_31 ?_
          refine y_nmH (fun u6 hu6 => ?_)
          replace hv := hv u6 hu6
          exact hb34 u6 l2 l3 hv
  refine y_iconst (v := 0) E dX11_followTurned_0 (by decide) ?_
  refine y_istore_n (lv' := [(3, .int 0), (0, .ref (w.1 0)), (1, .ref (w.1 49)), (2, .int a2)]) E dX11_followTurned_1 (by decide) rfl ?_
  refine y_lv (lv' := [(0, .ref (w.1 0)), (1, .ref (w.1 49)), (2, .int a2), (3, .int 0)]) [1, 2, 3, 0] rfl ?_
  obtain ⟨n0, hv⟩ := hv
  exact hL2 n0 σ a2 0 hv
theorem dX11_follow_0 : decode cX11_follow 0 = .ok (.aload_n 0, 1) := by decide +kernel
theorem dX11_follow_1 : decode cX11_follow 1 = .ok (.aload_n 1, 1) := by decide +kernel
theorem dX11_follow_2 : decode cX11_follow 2 = .ok (.iconst (-1), 1) := by decide +kernel
theorem dX11_follow_3 : decode cX11_follow 3 = .ok (.invokevirtual 229, 3) := by decide +kernel
theorem dX11_follow_6 : decode cX11_follow 6 = .ok (.return_, 1) := by decide +kernel
set_option maxRecDepth 100000 in
set_option maxHeartbeats 4000000 in
theorem kX11_follow (l : Launch) (w : wT) (hw : yOk w 55) (σ : Hp) (a1 : Nat) (K : Hp → Prop) (hv : VX11_follow K σ a1) : yMet l w xcf 55 yX11_follow cX11_follow 2 none 5 [.ref (w.1 0), .ref (w.1 49)] σ (yQv w xcf 55 K) := by
  unfold VX11_follow at hv
  refine y_start (lv0 := [(0, .ref (w.1 0)), (1, .ref (w.1 49))]) (by decide +kernel) (own := RX11) rfl hw (Nat.le_of_ble_eq_true rfl) rfl (fun p e s m below meth c A E => ?_)
  obtain ⟨None, hv⟩ := hv
  refine y_aload_n E dX11_follow_0 0 rfl ?_
  refine y_aload_n E dX11_follow_1 1 rfl ?_
  refine y_iconst (v := (-1)) E dX11_follow_2 (by decide) ?_
  refine y_callv E (y_runV E (rest := []) (kX11_followTurned l w E.2.2.1 σ 49 (-1) _ hv) (y_cwV 2 E.1.2.2.2.2 wm_372 wm_373 wm_374 wm_116 wm_375 (by decide +kernel) (yRm_le (by decide) (by decide))) (Nat.lt_of_lt_of_le (show 0 < 1 by decide) (by decide)) (xc_X11 (by decide) (by decide)) rfl rfl rfl (Nat.le_of_ble_eq_true rfl) dX11_follow_3) (fun u2 hk => ?_)
  clear hv
  have hv := hk
  clear hk
  exact y_vret E dX11_follow_6 hv
theorem dX11_when_0 : decode cX11_when 0 = .ok (.aload_n 0, 1) := by decide +kernel
theorem dX11_when_1 : decode cX11_when 1 = .ok (.iload_n 1, 1) := by decide +kernel
theorem dX11_when_2 : decode cX11_when 2 = .ok (.invokevirtual 175, 3) := by decide +kernel
theorem dX11_when_5 : decode cX11_when 5 = .ok (.ifCond .ne 6, 3) := by decide +kernel
theorem dX11_when_8 : decode cX11_when 8 = .ok (.bipush (-5), 2) := by decide +kernel
theorem dX11_when_10 : decode cX11_when 10 = .ok (.ireturn, 1) := by decide +kernel
theorem dX11_when_11 : decode cX11_when 11 = .ok (.iload_n 2, 1) := by decide +kernel
theorem dX11_when_12 : decode cX11_when 12 = .ok (.invokestatic 97, 3) := by decide +kernel
theorem dX11_when_15 : decode cX11_when 15 = .ok (.ifCond .ne 6, 3) := by decide +kernel
theorem dX11_when_18 : decode cX11_when 18 = .ok (.bipush (-7), 2) := by decide +kernel
theorem dX11_when_20 : decode cX11_when 20 = .ok (.ireturn, 1) := by decide +kernel
theorem dX11_when_21 : decode cX11_when 21 = .ok (.aload_n 0, 1) := by decide +kernel
theorem dX11_when_22 : decode cX11_when 22 = .ok (.aload_n 0, 1) := by decide +kernel
theorem dX11_when_23 : decode cX11_when 23 = .ok (.iload_n 1, 1) := by decide +kernel
theorem dX11_when_24 : decode cX11_when 24 = .ok (.invokevirtual 200, 3) := by decide +kernel
theorem dX11_when_27 : decode cX11_when 27 = .ok (.invokevirtual 204, 3) := by decide +kernel
theorem dX11_when_30 : decode cX11_when 30 = .ok (.aload_n 0, 1) := by decide +kernel
theorem dX11_when_31 : decode cX11_when 31 = .ok (.iload_n 2, 1) := by decide +kernel
theorem dX11_when_32 : decode cX11_when 32 = .ok (.invokevirtual 208, 3) := by decide +kernel
theorem dX11_when_35 : decode cX11_when 35 = .ok (.ireturn, 1) := by decide +kernel
set_option maxRecDepth 100000 in
set_option maxHeartbeats 4000000 in
theorem kX11_when (l : Launch) (w : wT) (hw : yOk w 55) (σ : Hp) (a1 : Int32) (a2 : Int32) (K : Int32 → Hp → Prop) (hv : VX11_when K σ a1 a2) : yMet l w xcf 55 yX11_when cX11_when 3 (some .int) 6 [.ref (w.1 0), .int a1, .int a2] σ (yQi w xcf 55 K) := by
  unfold VX11_when at hv
  refine y_start (lv0 := [(0, .ref (w.1 0)), (1, .int a1), (2, .int a2)]) (by decide +kernel) (own := RX11) rfl hw (Nat.le_of_ble_eq_true rfl) rfl (fun p e s m below meth c A E => ?_)
  refine y_aload_n E dX11_when_0 0 rfl ?_
  refine y_iload_n E dX11_when_1 1 rfl ?_
  refine y_calli E (y_runV E (rest := []) (kX11_isThing l w E.2.2.1 σ a1 _ hv) (y_cwV 1 E.1.2.2.2.2 wm_322 wm_323 wm_324 wm_116 wm_325 (by decide +kernel) (yRm_le (by decide) (by decide))) (Nat.lt_of_lt_of_le (show 0 < 1 by decide) (by decide)) (xc_X11 (by decide) (by decide)) rfl rfl rfl (Nat.le_of_ble_eq_true rfl) dX11_when_2) (fun v1 u2 hk => ?_)
  clear hv
  have hv := hk
  clear hk
  refine y_if_ne (tgt := 11) E dX11_when_5 (by decide) (fun c3 => ?_) (fun c3 => ?_)
  · replace hv := ite_f hv c3
    refine y_iload_n E dX11_when_11 2 rfl ?_
    refine y_calli E (y_runS E (rest := []) (kX11_isCell l w E.2.2.1 u2 a2 _ hv) (y_cwS 1 E.1.2.2.2.2 wm_265 wm_270 wm_116 wm_271 (by decide +kernel) (yRm_le (by decide) (by decide))) rfl rfl (Nat.le_of_ble_eq_true rfl) dX11_when_12) (fun v4 u5 hk => ?_)
    clear hv
    have hv := hk
    clear hk
    refine y_if_ne (tgt := 21) E dX11_when_15 (by decide) (fun c6 => ?_) (fun c6 => ?_)
    · replace hv := ite_f hv c6
      refine y_aload_n E dX11_when_21 0 rfl ?_
      refine y_aload_n E dX11_when_22 0 rfl ?_
      refine y_iload_n E dX11_when_23 1 rfl ?_
      refine y_callr E (y_runV E (rest := [.ref (w.1 0)]) (kX11_lift l w E.2.2.1 u5 a1 _ hv) (y_cwV 1 E.1.2.2.2.2 wm_339 wm_348 wm_349 wm_116 wm_350 (by decide +kernel) (yRm_le (by decide) (by decide))) (Nat.lt_of_lt_of_le (show 0 < 1 by decide) (by decide)) (xc_X11 (by decide) (by decide)) rfl rfl rfl (Nat.le_of_ble_eq_true rfl) dX11_when_24) (fun v7 u8 hk => ?_)
      clear hv
      have hv := hk
      clear hk
      obtain ⟨rfl, hv⟩ := hv
      refine y_callv E (y_runV E (rest := []) (kX11_follow l w E.2.2.1 u8 49 _ hv) (y_cwV 1 E.1.2.2.2.2 wm_340 wm_345 wm_346 wm_116 wm_347 (by decide +kernel) (yRm_le (by decide) (by decide))) (Nat.lt_of_lt_of_le (show 0 < 1 by decide) (by decide)) (xc_X11 (by decide) (by decide)) rfl rfl rfl (Nat.le_of_ble_eq_true rfl) dX11_when_27) (fun u10 hk => ?_)
      clear hv
      have hv := hk
      clear hk
      refine y_aload_n E dX11_when_30 0 rfl ?_
      refine y_iload_n E dX11_when_31 2 rfl ?_
      refine y_calli E (y_runV E (rest := []) (kX11_firstIn l w E.2.2.1 u10 a2 _ hv) (y_cwV 1 E.1.2.2.2.2 wm_341 wm_342 wm_343 wm_116 wm_344 (by decide +kernel) (yRm_le (by decide) (by decide))) (Nat.lt_of_lt_of_le (show 0 < 1 by decide) (by decide)) (xc_X11 (by decide) (by decide)) rfl rfl rfl (Nat.le_of_ble_eq_true rfl) dX11_when_32) (fun v11 u12 hk => ?_)
      clear hv
      have hv := hk
      clear hk
      exact y_iret E dX11_when_35 hv
    · replace hv := ite_t hv c6
      refine y_bipush (v := (-7)) E dX11_when_18 (by decide) ?_
      exact y_iret E dX11_when_20 hv
  · replace hv := ite_t hv c3
    refine y_bipush (v := (-5)) E dX11_when_8 (by decide) ?_
    exact y_iret E dX11_when_10 hv
theorem dX11_meet_0 : decode cX11_meet 0 = .ok (.aload_n 0, 1) := by decide +kernel
theorem dX11_meet_1 : decode cX11_meet 1 = .ok (.iload_n 1, 1) := by decide +kernel
theorem dX11_meet_2 : decode cX11_meet 2 = .ok (.invokevirtual 175, 3) := by decide +kernel
theorem dX11_meet_5 : decode cX11_meet 5 = .ok (.ifCond .eq 16, 3) := by decide +kernel
theorem dX11_meet_8 : decode cX11_meet 8 = .ok (.aload_n 0, 1) := by decide +kernel
theorem dX11_meet_9 : decode cX11_meet 9 = .ok (.iload_n 2, 1) := by decide +kernel
theorem dX11_meet_10 : decode cX11_meet 10 = .ok (.invokevirtual 175, 3) := by decide +kernel
theorem dX11_meet_13 : decode cX11_meet 13 = .ok (.ifCond .eq 8, 3) := by decide +kernel
theorem dX11_meet_16 : decode cX11_meet 16 = .ok (.iload_n 1, 1) := by decide +kernel
theorem dX11_meet_17 : decode cX11_meet 17 = .ok (.iload_n 2, 1) := by decide +kernel
theorem dX11_meet_18 : decode cX11_meet 18 = .ok (.if_icmp .ne 6, 3) := by decide +kernel
theorem dX11_meet_21 : decode cX11_meet 21 = .ok (.bipush (-5), 2) := by decide +kernel
theorem dX11_meet_23 : decode cX11_meet 23 = .ok (.ireturn, 1) := by decide +kernel
theorem dX11_meet_24 : decode cX11_meet 24 = .ok (.aload_n 0, 1) := by decide +kernel
theorem dX11_meet_25 : decode cX11_meet 25 = .ok (.aload_n 0, 1) := by decide +kernel
theorem dX11_meet_26 : decode cX11_meet 26 = .ok (.iload_n 1, 1) := by decide +kernel
theorem dX11_meet_27 : decode cX11_meet 27 = .ok (.invokevirtual 200, 3) := by decide +kernel
theorem dX11_meet_30 : decode cX11_meet 30 = .ok (.invokevirtual 204, 3) := by decide +kernel
theorem dX11_meet_33 : decode cX11_meet 33 = .ok (.aload_n 0, 1) := by decide +kernel
theorem dX11_meet_34 : decode cX11_meet 34 = .ok (.iload_n 2, 1) := by decide +kernel
theorem dX11_meet_35 : decode cX11_meet 35 = .ok (.invokevirtual 200, 3) := by decide +kernel
theorem dX11_meet_38 : decode cX11_meet 38 = .ok (.astore_n 3, 1) := by decide +kernel
theorem dX11_meet_39 : decode cX11_meet 39 = .ok (.iconst 0, 1) := by decide +kernel
theorem dX11_meet_40 : decode cX11_meet 40 = .ok (.istore 4, 2) := by decide +kernel
theorem dX11_meet_42 : decode cX11_meet 42 = .ok (.iload 4, 2) := by decide +kernel
theorem dX11_meet_44 : decode cX11_meet 44 = .ok (.bipush 40, 2) := by decide +kernel
theorem dX11_meet_46 : decode cX11_meet 46 = .ok (.if_icmp .gt 40, 3) := by decide +kernel
theorem dX11_meet_49 : decode cX11_meet 49 = .ok (.aload_n 3, 1) := by decide +kernel
theorem dX11_meet_50 : decode cX11_meet 50 = .ok (.getfield 188, 3) := by decide +kernel
theorem dX11_meet_53 : decode cX11_meet 53 = .ok (.aload_n 0, 1) := by decide +kernel
theorem dX11_meet_54 : decode cX11_meet 54 = .ok (.getfield 53, 3) := by decide +kernel
theorem dX11_meet_57 : decode cX11_meet 57 = .ok (.iload 4, 2) := by decide +kernel
theorem dX11_meet_59 : decode cX11_meet 59 = .ok (.iaload, 1) := by decide +kernel
theorem dX11_meet_60 : decode cX11_meet 60 = .ok (.if_icmp .ne 6, 3) := by decide +kernel
theorem dX11_meet_63 : decode cX11_meet 63 = .ok (.iload 4, 2) := by decide +kernel
theorem dX11_meet_65 : decode cX11_meet 65 = .ok (.ireturn, 1) := by decide +kernel
theorem dX11_meet_66 : decode cX11_meet 66 = .ok (.aload_n 3, 1) := by decide +kernel
theorem dX11_meet_67 : decode cX11_meet 67 = .ok (.aload_n 0, 1) := by decide +kernel
theorem dX11_meet_68 : decode cX11_meet 68 = .ok (.getfield 12, 3) := by decide +kernel
theorem dX11_meet_71 : decode cX11_meet 71 = .ok (.getfield 119, 3) := by decide +kernel
theorem dX11_meet_74 : decode cX11_meet 74 = .ok (.iload 4, 2) := by decide +kernel
theorem dX11_meet_76 : decode cX11_meet 76 = .ok (.iadd, 1) := by decide +kernel
theorem dX11_meet_77 : decode cX11_meet 77 = .ok (.invokevirtual 211, 3) := by decide +kernel
theorem dX11_meet_80 : decode cX11_meet 80 = .ok (.iinc 4 1, 3) := by decide +kernel
theorem dX11_meet_83 : decode cX11_meet 83 = .ok (.goto (-41), 3) := by decide +kernel
theorem dX11_meet_86 : decode cX11_meet 86 = .ok (.iconst (-1), 1) := by decide +kernel
theorem dX11_meet_87 : decode cX11_meet 87 = .ok (.ireturn, 1) := by decide +kernel
set_option maxRecDepth 100000 in
set_option maxHeartbeats 4000000 in
theorem kX11_meet (l : Launch) (w : wT) (hw : yOk w 55) (σ : Hp) (a1 : Int32) (a2 : Int32) (K : Int32 → Hp → Prop) (hv : VX11_meet K σ a1 a2) : yMet l w xcf 55 yX11_meet cX11_meet 5 (some .int) 6 [.ref (w.1 0), .int a1, .int a2] σ (yQi w xcf 55 K) := by
  unfold VX11_meet at hv
  refine y_start (lv0 := [(0, .ref (w.1 0)), (1, .int a1), (2, .int a2)]) (by decide +kernel) (own := RX11) rfl hw (Nat.le_of_ble_eq_true rfl) rfl (fun p e s m below meth c A E => ?_)
  have hL42 : ∀ (n42 : Nat) (σ : Hp) (l4 : Int32), VX11_meet_L42 K n42 σ l4 → YY p l e (yRm 6) s m [.ref (w.1 0), .int a1, .int a2].toArray below meth c w xcf 55 A (MQ below (yQi w xcf 55 K A) [.ref (w.1 0), .int a1, .int a2].toArray s 0 0 A) 5 σ 42 [(0, .ref (w.1 0)), (3, .ref (w.1 49)), (4, .int l4)] [] := by
    intro n42
    induction n42 with
    | zero => exact fun _ _ hv => (by unfold VX11_meet_L42 at hv; exact hv.elim)
    | succ n42 ih42 =>
      intro σ l4 hv
      unfold VX11_meet_L42 at hv
      refine y_iload E dX11_meet_42 2 rfl ?_
      refine y_bipush (v := 40) E dX11_meet_44 (by decide) ?_
      refine y_icmp_gt (tgt := 86) E dX11_meet_46 (by decide) (fun c14 => ?_) (fun c14 => ?_)
      · replace hv := ite_t hv c14
        refine y_iconst (v := (-1)) E dX11_meet_86 (by decide) ?_
        exact y_iret E dX11_meet_87 hv
      · replace hv := ite_f hv c14
        refine y_aload_n E dX11_meet_49 1 rfl ?_
        refine gf_X1_6 E (by decide) (by decide) wm_330 dX11_meet_50 ?_
        refine y_aload_n E dX11_meet_53 0 rfl ?_
        refine gf_X11_9 E (by decide) (by decide) wm_351 dX11_meet_54 ?_
        refine y_iload E dX11_meet_57 2 rfl ?_
        obtain ⟨hi, hv⟩ := hv
        refine y_iald E (Nat.lt_of_lt_of_le (show 50 < 51 by decide) (by decide)) (xc_path (by decide) (by decide)) hi dX11_meet_59 ?_
        refine y_icmp_ne (tgt := 66) E dX11_meet_60 (by decide) (fun c15 => ?_) (fun c15 => ?_)
        · replace hv := ite_f hv c15
          refine y_aload_n E dX11_meet_66 1 rfl ?_
          refine y_aload_n E dX11_meet_67 0 rfl ?_
          refine gf_X11_0 E (by decide) (by decide) wm_272 dX11_meet_68 ?_
          refine gf_X3_3 E (by decide) (by decide) wm_283 dX11_meet_71 ?_
          refine y_iload E dX11_meet_74 2 rfl ?_
          refine y_iadd E dX11_meet_76 ?_
          refine y_callv E (y_runV E (rest := []) (kX1_pass l w E.2.2.1 σ ((σ 1 3) + l4) _ hv) (y_cwV 1 E.1.2.2.2.2 wm_352 wm_96 wm_97 wm_98 wm_99 (by decide +kernel) (yRm_le (by decide) (by decide))) (Nat.lt_of_lt_of_le (show 49 < 50 by decide) (by decide)) (xc_X1 (by decide) (by decide)) rfl rfl rfl (Nat.le_of_ble_eq_true rfl) dX11_meet_77) (fun u17 hk => ?_)
          clear hv
          have hv := hk
          clear hk
          obtain ⟨x18, hx18⟩ : ∃ z : Int32, z = l4 + 1 := ⟨_, rfl⟩
          replace hv := hv x18 hx18
          refine y_iinc (v := x18) (lv' := [(4, .int x18), (0, .ref (w.1 0)), (3, .ref (w.1 49))]) E dX11_meet_80 2 rfl (by rw [hx18]; rfl) (by decide) rfl ?_
          refine y_goto (tgt := 42) E dX11_meet_83 (by decide) ?_
          refine y_lv (lv' := [(0, .ref (w.1 0)), (3, .ref (w.1 49)), (4, .int x18)]) [1, 2, 0] rfl ?_
          exact ih42 u17 x18 hv
        · replace hv := ite_t hv c15
          refine y_iload E dX11_meet_63 2 rfl ?_
          exact y_iret E dX11_meet_65 hv
  refine y_aload_n E dX11_meet_0 0 rfl ?_
  refine y_iload_n E dX11_meet_1 1 rfl ?_
  refine y_calli E (y_runV E (rest := []) (kX11_isThing l w E.2.2.1 σ a1 _ hv) (y_cwV 1 E.1.2.2.2.2 wm_322 wm_323 wm_324 wm_116 wm_325 (by decide +kernel) (yRm_le (by decide) (by decide))) (Nat.lt_of_lt_of_le (show 0 < 1 by decide) (by decide)) (xc_X11 (by decide) (by decide)) rfl rfl rfl (Nat.le_of_ble_eq_true rfl) dX11_meet_2) (fun v1 u2 hk => ?_)
  clear hv
  have hv := hk
  clear hk
  refine y_if_eq (tgt := 21) E dX11_meet_5 (by decide) (fun c3 => ?_) (fun c3 => ?_)
  · replace hv := ite_t hv c3
    refine y_bipush (v := (-5)) E dX11_meet_21 (by decide) ?_
    exact y_iret E dX11_meet_23 hv
  · replace hv := ite_f hv c3
    refine y_aload_n E dX11_meet_8 0 rfl ?_
    refine y_iload_n E dX11_meet_9 2 rfl ?_
    refine y_calli E (y_runV E (rest := []) (kX11_isThing l w E.2.2.1 u2 a2 _ hv) (y_cwV 1 E.1.2.2.2.2 wm_322 wm_323 wm_324 wm_116 wm_325 (by decide +kernel) (yRm_le (by decide) (by decide))) (Nat.lt_of_lt_of_le (show 0 < 1 by decide) (by decide)) (xc_X11 (by decide) (by decide)) rfl rfl rfl (Nat.le_of_ble_eq_true rfl) dX11_meet_10) (fun v4 u5 hk => ?_)
    clear hv
    have hv := hk
    clear hk
    refine y_if_eq (tgt := 21) E dX11_meet_13 (by decide) (fun c6 => ?_) (fun c6 => ?_)
    · replace hv := ite_t hv c6
      refine y_bipush (v := (-5)) E dX11_meet_21 (by decide) ?_
      exact y_iret E dX11_meet_23 hv
    · replace hv := ite_f hv c6
      refine y_iload_n E dX11_meet_16 1 rfl ?_
      refine y_iload_n E dX11_meet_17 2 rfl ?_
      refine y_icmp_ne (tgt := 24) E dX11_meet_18 (by decide) (fun c7 => ?_) (fun c7 => ?_)
      · replace hv := ite_f hv c7
        refine y_aload_n E dX11_meet_24 0 rfl ?_
        refine y_aload_n E dX11_meet_25 0 rfl ?_
        refine y_iload_n E dX11_meet_26 1 rfl ?_
        refine y_callr E (y_runV E (rest := [.ref (w.1 0)]) (kX11_lift l w E.2.2.1 u5 a1 _ hv) (y_cwV 1 E.1.2.2.2.2 wm_339 wm_348 wm_349 wm_116 wm_350 (by decide +kernel) (yRm_le (by decide) (by decide))) (Nat.lt_of_lt_of_le (show 0 < 1 by decide) (by decide)) (xc_X11 (by decide) (by decide)) rfl rfl rfl (Nat.le_of_ble_eq_true rfl) dX11_meet_27) (fun v8 u9 hk => ?_)
        clear hv
        have hv := hk
        clear hk
        obtain ⟨rfl, hv⟩ := hv
        refine y_callv E (y_runV E (rest := []) (kX11_follow l w E.2.2.1 u9 49 _ hv) (y_cwV 1 E.1.2.2.2.2 wm_340 wm_345 wm_346 wm_116 wm_347 (by decide +kernel) (yRm_le (by decide) (by decide))) (Nat.lt_of_lt_of_le (show 0 < 1 by decide) (by decide)) (xc_X11 (by decide) (by decide)) rfl rfl rfl (Nat.le_of_ble_eq_true rfl) dX11_meet_30) (fun u11 hk => ?_)
        clear hv
        have hv := hk
        clear hk
        refine y_aload_n E dX11_meet_33 0 rfl ?_
        refine y_iload_n E dX11_meet_34 2 rfl ?_
        refine y_callr E (y_runV E (rest := []) (kX11_lift l w E.2.2.1 u11 a2 _ hv) (y_cwV 1 E.1.2.2.2.2 wm_339 wm_348 wm_349 wm_116 wm_350 (by decide +kernel) (yRm_le (by decide) (by decide))) (Nat.lt_of_lt_of_le (show 0 < 1 by decide) (by decide)) (xc_X11 (by decide) (by decide)) rfl rfl rfl (Nat.le_of_ble_eq_true rfl) dX11_meet_35) (fun v12 u13 hk => ?_)
        clear hv
        have hv := hk
        clear hk
        obtain ⟨rfl, hv⟩ := hv
        refine y_astore_n (lv' := [(3, .ref (w.1 49)), (0, .ref (w.1 0)), (1, .int a1), (2, .int a2)]) E dX11_meet_38 (by decide) rfl ?_
        refine y_iconst (v := 0) E dX11_meet_39 (by decide) ?_
        refine y_istore (lv' := [(4, .int 0), (3, .ref (w.1 49)), (0, .ref (w.1 0)), (1, .int a1), (2, .int a2)]) E dX11_meet_40 (by decide) rfl ?_
        refine y_lv (lv' := [(0, .ref (w.1 0)), (3, .ref (w.1 49)), (4, .int 0)]) [2, 1, 0] rfl ?_
        obtain ⟨n0, hv⟩ := hv
        exact hL42 n0 u13 0 hv
      · replace hv := ite_t hv c7
        refine y_bipush (v := (-5)) E dX11_meet_21 (by decide) ?_
        exact y_iret E dX11_meet_23 hv
theorem dX11_inside_0 : decode cX11_inside 0 = .ok (.iload_n 1, 1) := by decide +kernel
theorem dX11_inside_1 : decode cX11_inside 1 = .ok (.invokestatic 178, 3) := by decide +kernel
theorem dX11_inside_4 : decode cX11_inside 4 = .ok (.ifCond .ne 6, 3) := by decide +kernel
theorem dX11_inside_7 : decode cX11_inside 7 = .ok (.bipush (-5), 2) := by decide +kernel
theorem dX11_inside_9 : decode cX11_inside 9 = .ok (.ireturn, 1) := by decide +kernel
theorem dX11_inside_10 : decode cX11_inside 10 = .ok (.iload_n 2, 1) := by decide +kernel
theorem dX11_inside_11 : decode cX11_inside 11 = .ok (.invokestatic 97, 3) := by decide +kernel
theorem dX11_inside_14 : decode cX11_inside 14 = .ok (.ifCond .ne 6, 3) := by decide +kernel
theorem dX11_inside_17 : decode cX11_inside 17 = .ok (.bipush (-7), 2) := by decide +kernel
theorem dX11_inside_19 : decode cX11_inside 19 = .ok (.ireturn, 1) := by decide +kernel
theorem dX11_inside_20 : decode cX11_inside 20 = .ok (.iconst 0, 1) := by decide +kernel
theorem dX11_inside_21 : decode cX11_inside 21 = .ok (.istore_n 3, 1) := by decide +kernel
theorem dX11_inside_22 : decode cX11_inside 22 = .ok (.iconst 0, 1) := by decide +kernel
theorem dX11_inside_23 : decode cX11_inside 23 = .ok (.istore 4, 2) := by decide +kernel
theorem dX11_inside_25 : decode cX11_inside 25 = .ok (.iload 4, 2) := by decide +kernel
theorem dX11_inside_27 : decode cX11_inside 27 = .ok (.aload_n 0, 1) := by decide +kernel
theorem dX11_inside_28 : decode cX11_inside 28 = .ok (.getfield 12, 3) := by decide +kernel
theorem dX11_inside_31 : decode cX11_inside 31 = .ok (.getfield 122, 3) := by decide +kernel
theorem dX11_inside_34 : decode cX11_inside 34 = .ok (.if_icmp .ge 34, 3) := by decide +kernel
theorem dX11_inside_37 : decode cX11_inside 37 = .ok (.iload_n 3, 1) := by decide +kernel
theorem dX11_inside_38 : decode cX11_inside 38 = .ok (.aload_n 0, 1) := by decide +kernel
theorem dX11_inside_39 : decode cX11_inside 39 = .ok (.iload_n 1, 1) := by decide +kernel
theorem dX11_inside_40 : decode cX11_inside 40 = .ok (.iload 4, 2) := by decide +kernel
theorem dX11_inside_42 : decode cX11_inside 42 = .ok (.invokevirtual 184, 3) := by decide +kernel
theorem dX11_inside_45 : decode cX11_inside 45 = .ok (.getfield 188, 3) := by decide +kernel
theorem dX11_inside_48 : decode cX11_inside 48 = .ok (.iload_n 2, 1) := by decide +kernel
theorem dX11_inside_49 : decode cX11_inside 49 = .ok (.if_icmp .ne 10, 3) := by decide +kernel
theorem dX11_inside_52 : decode cX11_inside 52 = .ok (.iconst 1, 1) := by decide +kernel
theorem dX11_inside_53 : decode cX11_inside 53 = .ok (.iload 4, 2) := by decide +kernel
theorem dX11_inside_55 : decode cX11_inside 55 = .ok (.ishl, 1) := by decide +kernel
theorem dX11_inside_56 : decode cX11_inside 56 = .ok (.goto 4, 3) := by decide +kernel
theorem dX11_inside_59 : decode cX11_inside 59 = .ok (.iconst 0, 1) := by decide +kernel
theorem dX11_inside_60 : decode cX11_inside 60 = .ok (.ior, 1) := by decide +kernel
theorem dX11_inside_61 : decode cX11_inside 61 = .ok (.istore_n 3, 1) := by decide +kernel
theorem dX11_inside_62 : decode cX11_inside 62 = .ok (.iinc 4 1, 3) := by decide +kernel
theorem dX11_inside_65 : decode cX11_inside 65 = .ok (.goto (-40), 3) := by decide +kernel
theorem dX11_inside_68 : decode cX11_inside 68 = .ok (.iload_n 3, 1) := by decide +kernel
theorem dX11_inside_69 : decode cX11_inside 69 = .ok (.ireturn, 1) := by decide +kernel
set_option maxRecDepth 100000 in
set_option maxHeartbeats 4000000 in
theorem kX11_inside (l : Launch) (w : wT) (hw : yOk w 55) (σ : Hp) (a1 : Int32) (a2 : Int32) (K : Int32 → Hp → Prop) (hv : VX11_inside K σ a1 a2) : yMet l w xcf 55 yX11_inside cX11_inside 5 (some .int) 6 [.ref (w.1 0), .int a1, .int a2] σ (yQi w xcf 55 K) := by
  unfold VX11_inside at hv
  refine y_start (lv0 := [(0, .ref (w.1 0)), (1, .int a1), (2, .int a2)]) (by decide +kernel) (own := RX11) rfl hw (Nat.le_of_ble_eq_true rfl) rfl (fun p e s m below meth c A E => ?_)
  have hL25 : ∀ (n25 : Nat) (σ : Hp) (l1 : Int32) (l2 : Int32) (l3 : Int32) (l4 : Int32), VX11_inside_L25 K n25 σ l1 l2 l3 l4 → YY p l e (yRm 6) s m [.ref (w.1 0), .int a1, .int a2].toArray below meth c w xcf 55 A (MQ below (yQi w xcf 55 K A) [.ref (w.1 0), .int a1, .int a2].toArray s 0 0 A) 5 σ 25 [(0, .ref (w.1 0)), (1, .int l1), (2, .int l2), (3, .int l3), (4, .int l4)] [] := by
    intro n25
    induction n25 with
    | zero => exact fun _ _ _ _ _ hv => (by unfold VX11_inside_L25 at hv; exact hv.elim)
    | succ n25 ih25 =>
      intro σ l1 l2 l3 l4 hv
      unfold VX11_inside_L25 at hv
      refine y_iload E dX11_inside_25 4 rfl ?_
      refine y_aload_n E dX11_inside_27 0 rfl ?_
      refine gf_X11_0 E (by decide) (by decide) wm_272 dX11_inside_28 ?_
      refine gf_X3_5 E (by decide) (by decide) wm_286 dX11_inside_31 ?_
      refine y_icmp_ge (tgt := 68) E dX11_inside_34 (by decide) (fun c7 => ?_) (fun c7 => ?_)
      · replace hv := ite_t hv c7
        refine y_iload_n E dX11_inside_68 3 rfl ?_
        exact y_iret E dX11_inside_69 hv
      · replace hv := ite_f hv c7
        refine y_iload_n E dX11_inside_37 3 rfl ?_
        refine y_aload_n E dX11_inside_38 0 rfl ?_
        refine y_iload_n E dX11_inside_39 1 rfl ?_
        refine y_iload E dX11_inside_40 4 rfl ?_
        refine y_callr E (y_runV E (rest := [.int l3]) (kX11_behind l w E.2.2.1 σ l1 l4 _ hv) (y_cwV 2 E.1.2.2.2.2 wm_328 wm_331 wm_332 wm_116 wm_333 (by decide +kernel) (yRm_le (by decide) (by decide))) (Nat.lt_of_lt_of_le (show 0 < 1 by decide) (by decide)) (xc_X11 (by decide) (by decide)) rfl rfl rfl (Nat.le_of_ble_eq_true rfl) dX11_inside_42) (fun v8 u9 hk => ?_)
        clear hv
        have hv := hk
        clear hk
        obtain ⟨rfl, hv⟩ := hv
        refine gf_X1_6 E (by decide) (by decide) wm_330 dX11_inside_45 ?_
        refine y_iload_n E dX11_inside_48 2 rfl ?_
        refine y_icmp_ne (tgt := 59) E dX11_inside_49 (by decide) (fun c10 => ?_) (fun c10 => ?_)
        · replace hv := ite_f hv c10
          refine y_iconst (v := 0) E dX11_inside_59 (by decide) ?_
          refine y_ior E dX11_inside_60 ?_
          refine y_nmi (fun x11 hx11 => ?_)
          replace hv := hv x11 hx11
          refine y_istore_n (lv' := [(3, .int x11), (0, .ref (w.1 0)), (1, .int l1), (2, .int l2), (4, .int l4)]) E dX11_inside_61 (by decide) rfl ?_
          obtain ⟨x12, hx12⟩ : ∃ z : Int32, z = l4 + 1 := ⟨_, rfl⟩
          replace hv := hv x12 hx12
          refine y_iinc (v := x12) (lv' := [(4, .int x12), (3, .int x11), (0, .ref (w.1 0)), (1, .int l1), (2, .int l2)]) E dX11_inside_62 4 rfl (by rw [hx12]; rfl) (by decide) rfl ?_
          refine y_goto (tgt := 25) E dX11_inside_65 (by decide) ?_
          refine y_lv (lv' := [(0, .ref (w.1 0)), (1, .int l1), (2, .int l2), (3, .int x11), (4, .int x12)]) [2, 3, 4, 1, 0] rfl ?_
          exact ih25 u9 l1 l2 x11 x12 hv
        · replace hv := ite_t hv c10
          refine y_iconst (v := 1) E dX11_inside_52 (by decide) ?_
          refine y_iload E dX11_inside_53 4 rfl ?_
          refine y_ishl E dX11_inside_55 ?_
          refine y_goto (tgt := 60) E dX11_inside_56 (by decide) ?_
          refine y_ior E dX11_inside_60 ?_
          refine y_nmi (fun x13 hx13 => ?_)
          replace hv := hv x13 hx13
          refine y_istore_n (lv' := [(3, .int x13), (0, .ref (w.1 0)), (1, .int l1), (2, .int l2), (4, .int l4)]) E dX11_inside_61 (by decide) rfl ?_
          obtain ⟨x14, hx14⟩ : ∃ z : Int32, z = l4 + 1 := ⟨_, rfl⟩
          replace hv := hv x14 hx14
          refine y_iinc (v := x14) (lv' := [(4, .int x14), (3, .int x13), (0, .ref (w.1 0)), (1, .int l1), (2, .int l2)]) E dX11_inside_62 4 rfl (by rw [hx14]; rfl) (by decide) rfl ?_
          refine y_goto (tgt := 25) E dX11_inside_65 (by decide) ?_
          refine y_lv (lv' := [(0, .ref (w.1 0)), (1, .int l1), (2, .int l2), (3, .int x13), (4, .int x14)]) [2, 3, 4, 1, 0] rfl ?_
          exact ih25 u9 l1 l2 x13 x14 hv
  refine y_iload_n E dX11_inside_0 1 rfl ?_
  refine y_calli E (y_runS E (rest := []) (kX11_isBehind l w E.2.2.1 σ a1 _ hv) (y_cwS 1 E.1.2.2.2.2 wm_326 wm_336 wm_116 wm_337 (by decide +kernel) (yRm_le (by decide) (by decide))) rfl rfl (Nat.le_of_ble_eq_true rfl) dX11_inside_1) (fun v1 u2 hk => ?_)
  clear hv
  have hv := hk
  clear hk
  refine y_if_ne (tgt := 10) E dX11_inside_4 (by decide) (fun c3 => ?_) (fun c3 => ?_)
  · replace hv := ite_f hv c3
    refine y_iload_n E dX11_inside_10 2 rfl ?_
    refine y_calli E (y_runS E (rest := []) (kX11_isCell l w E.2.2.1 u2 a2 _ hv) (y_cwS 1 E.1.2.2.2.2 wm_265 wm_270 wm_116 wm_271 (by decide +kernel) (yRm_le (by decide) (by decide))) rfl rfl (Nat.le_of_ble_eq_true rfl) dX11_inside_11) (fun v4 u5 hk => ?_)
    clear hv
    have hv := hk
    clear hk
    refine y_if_ne (tgt := 20) E dX11_inside_14 (by decide) (fun c6 => ?_) (fun c6 => ?_)
    · replace hv := ite_f hv c6
      refine y_iconst (v := 0) E dX11_inside_20 (by decide) ?_
      refine y_istore_n (lv' := [(3, .int 0), (0, .ref (w.1 0)), (1, .int a1), (2, .int a2)]) E dX11_inside_21 (by decide) rfl ?_
      refine y_iconst (v := 0) E dX11_inside_22 (by decide) ?_
      refine y_istore (lv' := [(4, .int 0), (3, .int 0), (0, .ref (w.1 0)), (1, .int a1), (2, .int a2)]) E dX11_inside_23 (by decide) rfl ?_
      refine y_lv (lv' := [(0, .ref (w.1 0)), (1, .int a1), (2, .int a2), (3, .int 0), (4, .int 0)]) [2, 3, 4, 1, 0] rfl ?_
      obtain ⟨n0, hv⟩ := hv
      exact hL25 n0 u5 a1 a2 0 0 hv
    · replace hv := ite_t hv c6
      refine y_bipush (v := (-7)) E dX11_inside_17 (by decide) ?_
      exact y_iret E dX11_inside_19 hv
  · replace hv := ite_t hv c3
    refine y_bipush (v := (-5)) E dX11_inside_7 (by decide) ?_
    exact y_iret E dX11_inside_9 hv
