theorem dJ9_floorMod_7cf53_0 : decode cJ9_floorMod_7cf53 0 = .ok (.iload_n 0, 1) := by decide +kernel
theorem dJ9_floorMod_7cf53_1 : decode cJ9_floorMod_7cf53 1 = .ok (.iload_n 1, 1) := by decide +kernel
theorem dJ9_floorMod_7cf53_2 : decode cJ9_floorMod_7cf53 2 = .ok (.irem, 1) := by decide +kernel
theorem dJ9_floorMod_7cf53_3 : decode cJ9_floorMod_7cf53 3 = .ok (.istore_n 2, 1) := by decide +kernel
theorem dJ9_floorMod_7cf53_4 : decode cJ9_floorMod_7cf53 4 = .ok (.iload_n 0, 1) := by decide +kernel
theorem dJ9_floorMod_7cf53_5 : decode cJ9_floorMod_7cf53 5 = .ok (.iload_n 1, 1) := by decide +kernel
theorem dJ9_floorMod_7cf53_6 : decode cJ9_floorMod_7cf53 6 = .ok (.ixor, 1) := by decide +kernel
theorem dJ9_floorMod_7cf53_7 : decode cJ9_floorMod_7cf53 7 = .ok (.ifCond .ge 11, 3) := by decide +kernel
theorem dJ9_floorMod_7cf53_10 : decode cJ9_floorMod_7cf53 10 = .ok (.iload_n 2, 1) := by decide +kernel
theorem dJ9_floorMod_7cf53_11 : decode cJ9_floorMod_7cf53 11 = .ok (.ifCond .eq 7, 3) := by decide +kernel
theorem dJ9_floorMod_7cf53_14 : decode cJ9_floorMod_7cf53 14 = .ok (.iload_n 2, 1) := by decide +kernel
theorem dJ9_floorMod_7cf53_15 : decode cJ9_floorMod_7cf53 15 = .ok (.iload_n 1, 1) := by decide +kernel
theorem dJ9_floorMod_7cf53_16 : decode cJ9_floorMod_7cf53 16 = .ok (.iadd, 1) := by decide +kernel
theorem dJ9_floorMod_7cf53_17 : decode cJ9_floorMod_7cf53 17 = .ok (.ireturn, 1) := by decide +kernel
theorem dJ9_floorMod_7cf53_18 : decode cJ9_floorMod_7cf53 18 = .ok (.iload_n 2, 1) := by decide +kernel
theorem dJ9_floorMod_7cf53_19 : decode cJ9_floorMod_7cf53 19 = .ok (.ireturn, 1) := by decide +kernel
set_option maxRecDepth 100000 in
set_option maxHeartbeats 4000000 in
theorem kJ9_floorMod_7cf53 (l : Launch) (w : wT) (hw : yOk w 55) (σ : Hp) (a1 : Int32) (a2 : Int32) (K : Int32 → Hp → Prop) (hv : VJ9_floorMod_7cf53 K σ a1 a2) : yMet l w xcf 55 yJ9_floorMod_7cf53 cJ9_floorMod_7cf53 3 (some .int) 1 [.int a1, .int a2] σ (yQi w xcf 55 K) := by
  unfold VJ9_floorMod_7cf53 at hv
  refine y_startF (lv0 := [(0, .int a1), (1, .int a2)]) (by decide +kernel) (own := RJ9) rfl hw (Nat.le_of_ble_eq_true rfl) rfl (fun p e s m below meth c A E => ?_)
  refine y_iload_n E dJ9_floorMod_7cf53_0 0 rfl ?_
  refine y_iload_n E dJ9_floorMod_7cf53_1 1 rfl ?_
  obtain ⟨hz, hv⟩ := hv
  refine y_irem E dJ9_floorMod_7cf53_2 hz ?_
  refine y_nmi (fun x1 hx1 => ?_)
  replace hv := hv x1 hx1
  refine y_istore_n (lv' := [(2, .int x1), (0, .int a1), (1, .int a2)]) E dJ9_floorMod_7cf53_3 (by decide) rfl ?_
  refine y_iload_n E dJ9_floorMod_7cf53_4 1 rfl ?_
  refine y_iload_n E dJ9_floorMod_7cf53_5 2 rfl ?_
  refine y_ixor E dJ9_floorMod_7cf53_6 ?_
  refine y_if_ge (tgt := 18) E dJ9_floorMod_7cf53_7 (by decide) (fun c2 => ?_) (fun c2 => ?_)
  · replace hv := ite_t hv c2
    refine y_iload_n E dJ9_floorMod_7cf53_18 0 rfl ?_
    exact y_iret E dJ9_floorMod_7cf53_19 hv
  · replace hv := ite_f hv c2
    refine y_iload_n E dJ9_floorMod_7cf53_10 0 rfl ?_
    refine y_if_eq (tgt := 18) E dJ9_floorMod_7cf53_11 (by decide) (fun c3 => ?_) (fun c3 => ?_)
    · replace hv := ite_t hv c3
      refine y_iload_n E dJ9_floorMod_7cf53_18 0 rfl ?_
      exact y_iret E dJ9_floorMod_7cf53_19 hv
    · replace hv := ite_f hv c3
      refine y_iload_n E dJ9_floorMod_7cf53_14 0 rfl ?_
      refine y_iload_n E dJ9_floorMod_7cf53_15 2 rfl ?_
      refine y_iadd E dJ9_floorMod_7cf53_16 ?_
      exact y_iret E dJ9_floorMod_7cf53_17 hv
theorem dX10_isOne_0 : decode cX10_isOne 0 = .ok (.iload_n 1, 1) := by decide +kernel
theorem dX10_isOne_1 : decode cX10_isOne 1 = .ok (.ifCond .ne 7, 3) := by decide +kernel
theorem dX10_isOne_4 : decode cX10_isOne 4 = .ok (.iconst 1, 1) := by decide +kernel
theorem dX10_isOne_5 : decode cX10_isOne 5 = .ok (.goto 4, 3) := by decide +kernel
theorem dX10_isOne_8 : decode cX10_isOne 8 = .ok (.iconst 0, 1) := by decide +kernel
theorem dX10_isOne_9 : decode cX10_isOne 9 = .ok (.ireturn, 1) := by decide +kernel
set_option maxRecDepth 100000 in
set_option maxHeartbeats 4000000 in
theorem kX10_isOne (l : Launch) (w : wT) (hw : yOk w 55) (σ : Hp) (o : Nat) (a1 : Int32) (K : Int32 → Hp → Prop) (hv : VX10_isOne K σ o a1) : yMet l w xcf 55 yX10_isOne cX10_isOne 2 (some .boolean) 1 [.ref (w.1 o), .int a1] σ (yQi w xcf 55 K) := by
  unfold VX10_isOne at hv
  refine y_start (lv0 := [(0, .ref (w.1 o)), (1, .int a1)]) (by decide +kernel) (own := RX10) rfl hw (Nat.le_of_ble_eq_true rfl) rfl (fun p e s m below meth c A E => ?_)
  obtain ⟨hgo, hv⟩ := hv
  refine y_iload_n E dX10_isOne_0 1 rfl ?_
  refine y_if_ne (tgt := 8) E dX10_isOne_1 (by decide) (fun c1 => ?_) (fun c1 => ?_)
  · replace hv := ite_f hv c1
    refine y_iconst (v := 0) E dX10_isOne_8 (by decide) ?_
    exact y_nret E dX10_isOne_9 (by decide) hv
  · replace hv := ite_t hv c1
    refine y_iconst (v := 1) E dX10_isOne_4 (by decide) ?_
    refine y_goto (tgt := 9) E dX10_isOne_5 (by decide) ?_
    exact y_nret E dX10_isOne_9 (by decide) hv
theorem dX5_isOne_0 : decode cX5_isOne 0 = .ok (.iload_n 1, 1) := by decide +kernel
theorem dX5_isOne_1 : decode cX5_isOne 1 = .ok (.iconst 2, 1) := by decide +kernel
theorem dX5_isOne_2 : decode cX5_isOne 2 = .ok (.if_icmp .eq 11, 3) := by decide +kernel
theorem dX5_isOne_5 : decode cX5_isOne 5 = .ok (.aload_n 0, 1) := by decide +kernel
theorem dX5_isOne_6 : decode cX5_isOne 6 = .ok (.iload_n 1, 1) := by decide +kernel
theorem dX5_isOne_7 : decode cX5_isOne 7 = .ok (.invokespecial 7, 3) := by decide +kernel
theorem dX5_isOne_10 : decode cX5_isOne 10 = .ok (.ifCond .eq 7, 3) := by decide +kernel
theorem dX5_isOne_13 : decode cX5_isOne 13 = .ok (.iconst 1, 1) := by decide +kernel
theorem dX5_isOne_14 : decode cX5_isOne 14 = .ok (.goto 4, 3) := by decide +kernel
theorem dX5_isOne_17 : decode cX5_isOne 17 = .ok (.iconst 0, 1) := by decide +kernel
theorem dX5_isOne_18 : decode cX5_isOne 18 = .ok (.ireturn, 1) := by decide +kernel
set_option maxRecDepth 100000 in
set_option maxHeartbeats 4000000 in
theorem kX5_isOne (l : Launch) (w : wT) (hw : yOk w 55) (σ : Hp) (o : Nat) (a1 : Int32) (K : Int32 → Hp → Prop) (hv : VX5_isOne K σ o a1) : yMet l w xcf 55 yX5_isOne cX5_isOne 2 (some .boolean) 2 [.ref (w.1 o), .int a1] σ (yQi w xcf 55 K) := by
  unfold VX5_isOne at hv
  refine y_start (lv0 := [(0, .ref (w.1 o)), (1, .int a1)]) (by decide +kernel) (own := RX5) rfl hw (Nat.le_of_ble_eq_true rfl) rfl (fun p e s m below meth c A E => ?_)
  obtain ⟨hgo, hv⟩ := hv
  refine y_iload_n E dX5_isOne_0 1 rfl ?_
  refine y_iconst (v := 2) E dX5_isOne_1 (by decide) ?_
  refine y_icmp_eq (tgt := 13) E dX5_isOne_2 (by decide) (fun c1 => ?_) (fun c1 => ?_)
  · replace hv := ite_t hv c1
    refine y_iconst (v := 1) E dX5_isOne_13 (by decide) ?_
    refine y_goto (tgt := 18) E dX5_isOne_14 (by decide) ?_
    exact y_nret E dX5_isOne_18 (by decide) hv
  · replace hv := ite_f hv c1
    refine y_aload_n E dX5_isOne_5 0 rfl ?_
    refine y_iload_n E dX5_isOne_6 1 rfl ?_
    obtain ⟨ci, fs, C9, T9, N9, hcl, hvc⟩ := xthing (w := w) (r := σ o) hgo
    refine y_calli E (y_runSU E (rest := []) (kX10_isOne l w E.2.2.1 σ o a1 _ hv) (y_cwSU 1 E.1.2.2.2.2 wm_229 wm_126 wm_91 wm_128 wm_93 wm_129 (by decide +kernel) (yRm_le (by decide) (by decide))) (Nat.lt_of_lt_of_le hgo.2 (by decide)) hcl hvc rfl rfl (Nat.le_of_ble_eq_true rfl) dX5_isOne_7) (fun v2 u3 hk => ?_)
    clear hv
    have hv := hk
    clear hk
    refine y_if_eq (tgt := 17) E dX5_isOne_10 (by decide) (fun c4 => ?_) (fun c4 => ?_)
    · replace hv := ite_t hv c4
      refine y_iconst (v := 0) E dX5_isOne_17 (by decide) ?_
      exact y_nret E dX5_isOne_18 (by decide) hv
    · replace hv := ite_f hv c4
      refine y_iconst (v := 1) E dX5_isOne_13 (by decide) ?_
      refine y_goto (tgt := 18) E dX5_isOne_14 (by decide) ?_
      exact y_nret E dX5_isOne_18 (by decide) hv
theorem dX0_isOne_0 : decode cX0_isOne 0 = .ok (.iload_n 1, 1) := by decide +kernel
theorem dX0_isOne_1 : decode cX0_isOne 1 = .ok (.iconst 4, 1) := by decide +kernel
theorem dX0_isOne_2 : decode cX0_isOne 2 = .ok (.if_icmp .eq 11, 3) := by decide +kernel
theorem dX0_isOne_5 : decode cX0_isOne 5 = .ok (.aload_n 0, 1) := by decide +kernel
theorem dX0_isOne_6 : decode cX0_isOne 6 = .ok (.iload_n 1, 1) := by decide +kernel
theorem dX0_isOne_7 : decode cX0_isOne 7 = .ok (.invokespecial 9, 3) := by decide +kernel
theorem dX0_isOne_10 : decode cX0_isOne 10 = .ok (.ifCond .eq 7, 3) := by decide +kernel
theorem dX0_isOne_13 : decode cX0_isOne 13 = .ok (.iconst 1, 1) := by decide +kernel
theorem dX0_isOne_14 : decode cX0_isOne 14 = .ok (.goto 4, 3) := by decide +kernel
theorem dX0_isOne_17 : decode cX0_isOne 17 = .ok (.iconst 0, 1) := by decide +kernel
theorem dX0_isOne_18 : decode cX0_isOne 18 = .ok (.ireturn, 1) := by decide +kernel
set_option maxRecDepth 100000 in
set_option maxHeartbeats 4000000 in
theorem kX0_isOne (l : Launch) (w : wT) (hw : yOk w 55) (σ : Hp) (o : Nat) (a1 : Int32) (K : Int32 → Hp → Prop) (hv : VX0_isOne K σ o a1) : yMet l w xcf 55 yX0_isOne cX0_isOne 2 (some .boolean) 3 [.ref (w.1 o), .int a1] σ (yQi w xcf 55 K) := by
  unfold VX0_isOne at hv
  refine y_start (lv0 := [(0, .ref (w.1 o)), (1, .int a1)]) (by decide +kernel) (own := RX0) rfl hw (Nat.le_of_ble_eq_true rfl) rfl (fun p e s m below meth c A E => ?_)
  obtain ⟨hgo, hv⟩ := hv
  refine y_iload_n E dX0_isOne_0 1 rfl ?_
  refine y_iconst (v := 4) E dX0_isOne_1 (by decide) ?_
  refine y_icmp_eq (tgt := 13) E dX0_isOne_2 (by decide) (fun c1 => ?_) (fun c1 => ?_)
  · replace hv := ite_t hv c1
    refine y_iconst (v := 1) E dX0_isOne_13 (by decide) ?_
    refine y_goto (tgt := 18) E dX0_isOne_14 (by decide) ?_
    exact y_nret E dX0_isOne_18 (by decide) hv
  · replace hv := ite_f hv c1
    refine y_aload_n E dX0_isOne_5 0 rfl ?_
    refine y_iload_n E dX0_isOne_6 1 rfl ?_
    obtain ⟨ci, fs, C9, T9, N9, hcl, hvc⟩ := xthing (w := w) (r := σ o) hgo
    refine y_calli E (y_runSU E (rest := []) (kX5_isOne l w E.2.2.1 σ o a1 _ hv) (y_cwSU 1 E.1.2.2.2.2 wm_83 wm_84 wm_85 wm_86 wm_87 wm_88 (by decide +kernel) (yRm_le (by decide) (by decide))) (Nat.lt_of_lt_of_le hgo.2 (by decide)) hcl hvc rfl rfl (Nat.le_of_ble_eq_true rfl) dX0_isOne_7) (fun v2 u3 hk => ?_)
    clear hv
    have hv := hk
    clear hk
    refine y_if_eq (tgt := 17) E dX0_isOne_10 (by decide) (fun c4 => ?_) (fun c4 => ?_)
    · replace hv := ite_t hv c4
      refine y_iconst (v := 0) E dX0_isOne_17 (by decide) ?_
      exact y_nret E dX0_isOne_18 (by decide) hv
    · replace hv := ite_f hv c4
      refine y_iconst (v := 1) E dX0_isOne_13 (by decide) ?_
      refine y_goto (tgt := 18) E dX0_isOne_14 (by decide) ?_
      exact y_nret E dX0_isOne_18 (by decide) hv
theorem dX10_blown_0 : decode cX10_blown 0 = .ok (.iload_n 1, 1) := by decide +kernel
theorem dX10_blown_1 : decode cX10_blown 1 = .ok (.iconst 4, 1) := by decide +kernel
theorem dX10_blown_2 : decode cX10_blown 2 = .ok (.if_icmp .ne 7, 3) := by decide +kernel
theorem dX10_blown_5 : decode cX10_blown 5 = .ok (.iload_n 2, 1) := by decide +kernel
theorem dX10_blown_6 : decode cX10_blown 6 = .ok (.goto 4, 3) := by decide +kernel
theorem dX10_blown_9 : decode cX10_blown 9 = .ok (.iload_n 1, 1) := by decide +kernel
theorem dX10_blown_10 : decode cX10_blown 10 = .ok (.ireturn, 1) := by decide +kernel
set_option maxRecDepth 100000 in
set_option maxHeartbeats 4000000 in
theorem kX10_blown (l : Launch) (w : wT) (hw : yOk w 55) (σ : Hp) (o : Nat) (a1 : Int32) (a2 : Int32) (K : Int32 → Hp → Prop) (hv : VX10_blown K σ o a1 a2) : yMet l w xcf 55 yX10_blown cX10_blown 3 (some .int) 1 [.ref (w.1 o), .int a1, .int a2] σ (yQi w xcf 55 K) := by
  unfold VX10_blown at hv
  refine y_start (lv0 := [(0, .ref (w.1 o)), (1, .int a1), (2, .int a2)]) (by decide +kernel) (own := RX10) rfl hw (Nat.le_of_ble_eq_true rfl) rfl (fun p e s m below meth c A E => ?_)
  obtain ⟨hgo, hv⟩ := hv
  refine y_iload_n E dX10_blown_0 1 rfl ?_
  refine y_iconst (v := 4) E dX10_blown_1 (by decide) ?_
  refine y_icmp_ne (tgt := 9) E dX10_blown_2 (by decide) (fun c1 => ?_) (fun c1 => ?_)
  · replace hv := ite_f hv c1
    refine y_iload_n E dX10_blown_9 1 rfl ?_
    exact y_iret E dX10_blown_10 hv
  · replace hv := ite_t hv c1
    refine y_iload_n E dX10_blown_5 2 rfl ?_
    refine y_goto (tgt := 10) E dX10_blown_6 (by decide) ?_
    exact y_iret E dX10_blown_10 hv
theorem dX0_blown_0 : decode cX0_blown 0 = .ok (.iload_n 1, 1) := by decide +kernel
theorem dX0_blown_1 : decode cX0_blown 1 = .ok (.iconst 4, 1) := by decide +kernel
theorem dX0_blown_2 : decode cX0_blown 2 = .ok (.if_icmp .ne 12, 3) := by decide +kernel
theorem dX0_blown_5 : decode cX0_blown 5 = .ok (.aload_n 0, 1) := by decide +kernel
theorem dX0_blown_6 : decode cX0_blown 6 = .ok (.iload_n 1, 1) := by decide +kernel
theorem dX0_blown_7 : decode cX0_blown 7 = .ok (.iload_n 2, 1) := by decide +kernel
theorem dX0_blown_8 : decode cX0_blown 8 = .ok (.invokespecial 13, 3) := by decide +kernel
theorem dX0_blown_11 : decode cX0_blown 11 = .ok (.goto 8, 3) := by decide +kernel
theorem dX0_blown_14 : decode cX0_blown 14 = .ok (.iload_n 1, 1) := by decide +kernel
theorem dX0_blown_15 : decode cX0_blown 15 = .ok (.iconst 2, 1) := by decide +kernel
theorem dX0_blown_16 : decode cX0_blown 16 = .ok (.iadd, 1) := by decide +kernel
theorem dX0_blown_17 : decode cX0_blown 17 = .ok (.iconst 4, 1) := by decide +kernel
theorem dX0_blown_18 : decode cX0_blown 18 = .ok (.irem, 1) := by decide +kernel
theorem dX0_blown_19 : decode cX0_blown 19 = .ok (.ireturn, 1) := by decide +kernel
set_option maxRecDepth 100000 in
set_option maxHeartbeats 4000000 in
theorem kX0_blown (l : Launch) (w : wT) (hw : yOk w 55) (σ : Hp) (o : Nat) (a1 : Int32) (a2 : Int32) (K : Int32 → Hp → Prop) (hv : VX0_blown K σ o a1 a2) : yMet l w xcf 55 yX0_blown cX0_blown 3 (some .int) 2 [.ref (w.1 o), .int a1, .int a2] σ (yQi w xcf 55 K) := by
  unfold VX0_blown at hv
  refine y_start (lv0 := [(0, .ref (w.1 o)), (1, .int a1), (2, .int a2)]) (by decide +kernel) (own := RX0) rfl hw (Nat.le_of_ble_eq_true rfl) rfl (fun p e s m below meth c A E => ?_)
  obtain ⟨hgo, hv⟩ := hv
  refine y_iload_n E dX0_blown_0 1 rfl ?_
  refine y_iconst (v := 4) E dX0_blown_1 (by decide) ?_
  refine y_icmp_ne (tgt := 14) E dX0_blown_2 (by decide) (fun c1 => ?_) (fun c1 => ?_)
  · replace hv := ite_f hv c1
    refine y_iload_n E dX0_blown_14 1 rfl ?_
    refine y_iconst (v := 2) E dX0_blown_15 (by decide) ?_
    refine y_iadd E dX0_blown_16 ?_
    refine y_iconst (v := 4) E dX0_blown_17 (by decide) ?_
    refine y_irem E dX0_blown_18 (by decide) ?_
    exact y_iret E dX0_blown_19 hv
  · replace hv := ite_t hv c1
    refine y_aload_n E dX0_blown_5 0 rfl ?_
    refine y_iload_n E dX0_blown_6 1 rfl ?_
    refine y_iload_n E dX0_blown_7 2 rfl ?_
    obtain ⟨ci, fs, C9, T9, N9, hcl, hvc⟩ := xthing (w := w) (r := σ o) hgo
    refine y_calli E (y_runSI E (rest := []) (k := 2) (owner := RX10) (x0 := ⟨RX5, "blown", "(II)I"⟩) (kX10_blown l w E.2.2.1 σ o a1 a2 _ hv) wm_89 wm_90 wm_85 wm_91 wm_92 wm_93 wm_94 rfl (by decide) (by decide +kernel) (yRm_le (by decide) (by decide)) (Nat.lt_of_lt_of_le hgo.2 (by decide)) hcl hvc rfl rfl (Nat.le_of_ble_eq_true rfl) dX0_blown_8) (fun v2 u3 hv => ?_)
    refine y_goto (tgt := 19) E dX0_blown_11 (by decide) ?_
    exact y_iret E dX0_blown_19 hv
theorem dX2_isOne_0 : decode cX2_isOne 0 = .ok (.iload_n 1, 1) := by decide +kernel
theorem dX2_isOne_1 : decode cX2_isOne 1 = .ok (.iconst 5, 1) := by decide +kernel
theorem dX2_isOne_2 : decode cX2_isOne 2 = .ok (.if_icmp .eq 11, 3) := by decide +kernel
theorem dX2_isOne_5 : decode cX2_isOne 5 = .ok (.aload_n 0, 1) := by decide +kernel
theorem dX2_isOne_6 : decode cX2_isOne 6 = .ok (.iload_n 1, 1) := by decide +kernel
theorem dX2_isOne_7 : decode cX2_isOne 7 = .ok (.invokespecial 9, 3) := by decide +kernel
theorem dX2_isOne_10 : decode cX2_isOne 10 = .ok (.ifCond .eq 7, 3) := by decide +kernel
theorem dX2_isOne_13 : decode cX2_isOne 13 = .ok (.iconst 1, 1) := by decide +kernel
theorem dX2_isOne_14 : decode cX2_isOne 14 = .ok (.goto 4, 3) := by decide +kernel
theorem dX2_isOne_17 : decode cX2_isOne 17 = .ok (.iconst 0, 1) := by decide +kernel
theorem dX2_isOne_18 : decode cX2_isOne 18 = .ok (.ireturn, 1) := by decide +kernel
set_option maxRecDepth 100000 in
set_option maxHeartbeats 4000000 in
theorem kX2_isOne (l : Launch) (w : wT) (hw : yOk w 55) (σ : Hp) (o : Nat) (a1 : Int32) (K : Int32 → Hp → Prop) (hv : VX2_isOne K σ o a1) : yMet l w xcf 55 yX2_isOne cX2_isOne 2 (some .boolean) 2 [.ref (w.1 o), .int a1] σ (yQi w xcf 55 K) := by
  unfold VX2_isOne at hv
  refine y_start (lv0 := [(0, .ref (w.1 o)), (1, .int a1)]) (by decide +kernel) (own := RX2) rfl hw (Nat.le_of_ble_eq_true rfl) rfl (fun p e s m below meth c A E => ?_)
  obtain ⟨hgo, hv⟩ := hv
  refine y_iload_n E dX2_isOne_0 1 rfl ?_
  refine y_iconst (v := 5) E dX2_isOne_1 (by decide) ?_
  refine y_icmp_eq (tgt := 13) E dX2_isOne_2 (by decide) (fun c1 => ?_) (fun c1 => ?_)
  · replace hv := ite_t hv c1
    refine y_iconst (v := 1) E dX2_isOne_13 (by decide) ?_
    refine y_goto (tgt := 18) E dX2_isOne_14 (by decide) ?_
    exact y_nret E dX2_isOne_18 (by decide) hv
  · replace hv := ite_f hv c1
    refine y_aload_n E dX2_isOne_5 0 rfl ?_
    refine y_iload_n E dX2_isOne_6 1 rfl ?_
    obtain ⟨ci, fs, C9, T9, N9, hcl, hvc⟩ := xthing (w := w) (r := σ o) hgo
    refine y_calli E (y_runSU E (rest := []) (kX10_isOne l w E.2.2.1 σ o a1 _ hv) (y_cwSU 1 E.1.2.2.2.2 wm_125 wm_126 wm_127 wm_128 wm_93 wm_129 (by decide +kernel) (yRm_le (by decide) (by decide))) (Nat.lt_of_lt_of_le hgo.2 (by decide)) hcl hvc rfl rfl (Nat.le_of_ble_eq_true rfl) dX2_isOne_7) (fun v2 u3 hk => ?_)
    clear hv
    have hv := hk
    clear hk
    refine y_if_eq (tgt := 17) E dX2_isOne_10 (by decide) (fun c4 => ?_) (fun c4 => ?_)
    · replace hv := ite_t hv c4
      refine y_iconst (v := 0) E dX2_isOne_17 (by decide) ?_
      exact y_nret E dX2_isOne_18 (by decide) hv
    · replace hv := ite_f hv c4
      refine y_iconst (v := 1) E dX2_isOne_13 (by decide) ?_
      refine y_goto (tgt := 18) E dX2_isOne_14 (by decide) ?_
      exact y_nret E dX2_isOne_18 (by decide) hv
theorem dX2_blown_0 : decode cX2_blown 0 = .ok (.iload_n 2, 1) := by decide +kernel
theorem dX2_blown_1 : decode cX2_blown 1 = .ok (.iconst 4, 1) := by decide +kernel
theorem dX2_blown_2 : decode cX2_blown 2 = .ok (.if_icmp .ne 12, 3) := by decide +kernel
theorem dX2_blown_5 : decode cX2_blown 5 = .ok (.aload_n 0, 1) := by decide +kernel
theorem dX2_blown_6 : decode cX2_blown 6 = .ok (.iload_n 1, 1) := by decide +kernel
theorem dX2_blown_7 : decode cX2_blown 7 = .ok (.iload_n 2, 1) := by decide +kernel
theorem dX2_blown_8 : decode cX2_blown 8 = .ok (.invokespecial 13, 3) := by decide +kernel
theorem dX2_blown_11 : decode cX2_blown 11 = .ok (.goto 4, 3) := by decide +kernel
theorem dX2_blown_14 : decode cX2_blown 14 = .ok (.iload_n 2, 1) := by decide +kernel
theorem dX2_blown_15 : decode cX2_blown 15 = .ok (.ireturn, 1) := by decide +kernel
set_option maxRecDepth 100000 in
set_option maxHeartbeats 4000000 in
theorem kX2_blown (l : Launch) (w : wT) (hw : yOk w 55) (σ : Hp) (o : Nat) (a1 : Int32) (a2 : Int32) (K : Int32 → Hp → Prop) (hv : VX2_blown K σ o a1 a2) : yMet l w xcf 55 yX2_blown cX2_blown 3 (some .int) 2 [.ref (w.1 o), .int a1, .int a2] σ (yQi w xcf 55 K) := by
  unfold VX2_blown at hv
  refine y_start (lv0 := [(0, .ref (w.1 o)), (1, .int a1), (2, .int a2)]) (by decide +kernel) (own := RX2) rfl hw (Nat.le_of_ble_eq_true rfl) rfl (fun p e s m below meth c A E => ?_)
  obtain ⟨hgo, hv⟩ := hv
  refine y_iload_n E dX2_blown_0 2 rfl ?_
  refine y_iconst (v := 4) E dX2_blown_1 (by decide) ?_
  refine y_icmp_ne (tgt := 14) E dX2_blown_2 (by decide) (fun c1 => ?_) (fun c1 => ?_)
  · replace hv := ite_f hv c1
    refine y_iload_n E dX2_blown_14 2 rfl ?_
    exact y_iret E dX2_blown_15 hv
  · replace hv := ite_t hv c1
    refine y_aload_n E dX2_blown_5 0 rfl ?_
    refine y_iload_n E dX2_blown_6 1 rfl ?_
    refine y_iload_n E dX2_blown_7 2 rfl ?_
    obtain ⟨ci, fs, C9, T9, N9, hcl, hvc⟩ := xthing (w := w) (r := σ o) hgo
    refine y_calli E (y_runSU E (rest := []) (kX10_blown l w E.2.2.1 σ o a1 a2 _ hv) (y_cwSU 2 E.1.2.2.2.2 wm_130 wm_131 wm_127 wm_92 wm_93 wm_94 (by decide +kernel) (yRm_le (by decide) (by decide))) (Nat.lt_of_lt_of_le hgo.2 (by decide)) hcl hvc rfl rfl (Nat.le_of_ble_eq_true rfl) dX2_blown_8) (fun v2 u3 hk => ?_)
    clear hv
    have hv := hk
    clear hk
    refine y_goto (tgt := 15) E dX2_blown_11 (by decide) ?_
    exact y_iret E dX2_blown_15 hv
theorem dX5_touching_0 : decode cX5_touching 0 = .ok (.iload_n 1, 1) := by decide +kernel
theorem dX5_touching_1 : decode cX5_touching 1 = .ok (.iconst 1, 1) := by decide +kernel
theorem dX5_touching_2 : decode cX5_touching 2 = .ok (.iadd, 1) := by decide +kernel
theorem dX5_touching_3 : decode cX5_touching 3 = .ok (.iconst 4, 1) := by decide +kernel
theorem dX5_touching_4 : decode cX5_touching 4 = .ok (.irem, 1) := by decide +kernel
theorem dX5_touching_5 : decode cX5_touching 5 = .ok (.ireturn, 1) := by decide +kernel
set_option maxRecDepth 100000 in
set_option maxHeartbeats 4000000 in
theorem kX5_touching (l : Launch) (w : wT) (hw : yOk w 55) (σ : Hp) (o : Nat) (a1 : Int32) (K : Int32 → Hp → Prop) (hv : VX5_touching K σ o a1) : yMet l w xcf 55 yX5_touching cX5_touching 2 (some .int) 1 [.ref (w.1 o), .int a1] σ (yQi w xcf 55 K) := by
  unfold VX5_touching at hv
  refine y_start (lv0 := [(0, .ref (w.1 o)), (1, .int a1)]) (by decide +kernel) (own := RX5) rfl hw (Nat.le_of_ble_eq_true rfl) rfl (fun p e s m below meth c A E => ?_)
  obtain ⟨hgo, hv⟩ := hv
  refine y_iload_n E dX5_touching_0 1 rfl ?_
  refine y_iconst (v := 1) E dX5_touching_1 (by decide) ?_
  refine y_iadd E dX5_touching_2 ?_
  refine y_iconst (v := 4) E dX5_touching_3 (by decide) ?_
  refine y_irem E dX5_touching_4 (by decide) ?_
  exact y_iret E dX5_touching_5 hv
theorem dX7_isOne_0 : decode cX7_isOne 0 = .ok (.iload_n 1, 1) := by decide +kernel
theorem dX7_isOne_1 : decode cX7_isOne 1 = .ok (.iconst 1, 1) := by decide +kernel
theorem dX7_isOne_2 : decode cX7_isOne 2 = .ok (.if_icmp .eq 11, 3) := by decide +kernel
theorem dX7_isOne_5 : decode cX7_isOne 5 = .ok (.aload_n 0, 1) := by decide +kernel
theorem dX7_isOne_6 : decode cX7_isOne 6 = .ok (.iload_n 1, 1) := by decide +kernel
theorem dX7_isOne_7 : decode cX7_isOne 7 = .ok (.invokespecial 9, 3) := by decide +kernel
theorem dX7_isOne_10 : decode cX7_isOne 10 = .ok (.ifCond .eq 7, 3) := by decide +kernel
theorem dX7_isOne_13 : decode cX7_isOne 13 = .ok (.iconst 1, 1) := by decide +kernel
theorem dX7_isOne_14 : decode cX7_isOne 14 = .ok (.goto 4, 3) := by decide +kernel
theorem dX7_isOne_17 : decode cX7_isOne 17 = .ok (.iconst 0, 1) := by decide +kernel
theorem dX7_isOne_18 : decode cX7_isOne 18 = .ok (.ireturn, 1) := by decide +kernel
set_option maxRecDepth 100000 in
set_option maxHeartbeats 4000000 in
theorem kX7_isOne (l : Launch) (w : wT) (hw : yOk w 55) (σ : Hp) (o : Nat) (a1 : Int32) (K : Int32 → Hp → Prop) (hv : VX7_isOne K σ o a1) : yMet l w xcf 55 yX7_isOne cX7_isOne 2 (some .boolean) 2 [.ref (w.1 o), .int a1] σ (yQi w xcf 55 K) := by
  unfold VX7_isOne at hv
  refine y_start (lv0 := [(0, .ref (w.1 o)), (1, .int a1)]) (by decide +kernel) (own := RX7) rfl hw (Nat.le_of_ble_eq_true rfl) rfl (fun p e s m below meth c A E => ?_)
  obtain ⟨hgo, hv⟩ := hv
  refine y_iload_n E dX7_isOne_0 1 rfl ?_
  refine y_iconst (v := 1) E dX7_isOne_1 (by decide) ?_
  refine y_icmp_eq (tgt := 13) E dX7_isOne_2 (by decide) (fun c1 => ?_) (fun c1 => ?_)
  · replace hv := ite_t hv c1
    refine y_iconst (v := 1) E dX7_isOne_13 (by decide) ?_
    refine y_goto (tgt := 18) E dX7_isOne_14 (by decide) ?_
    exact y_nret E dX7_isOne_18 (by decide) hv
  · replace hv := ite_f hv c1
    refine y_aload_n E dX7_isOne_5 0 rfl ?_
    refine y_iload_n E dX7_isOne_6 1 rfl ?_
    obtain ⟨ci, fs, C9, T9, N9, hcl, hvc⟩ := xthing (w := w) (r := σ o) hgo
    refine y_calli E (y_runSU E (rest := []) (kX10_isOne l w E.2.2.1 σ o a1 _ hv) (y_cwSU 1 E.1.2.2.2.2 wm_233 wm_126 wm_234 wm_128 wm_93 wm_129 (by decide +kernel) (yRm_le (by decide) (by decide))) (Nat.lt_of_lt_of_le hgo.2 (by decide)) hcl hvc rfl rfl (Nat.le_of_ble_eq_true rfl) dX7_isOne_7) (fun v2 u3 hk => ?_)
    clear hv
    have hv := hk
    clear hk
    refine y_if_eq (tgt := 17) E dX7_isOne_10 (by decide) (fun c4 => ?_) (fun c4 => ?_)
    · replace hv := ite_t hv c4
      refine y_iconst (v := 0) E dX7_isOne_17 (by decide) ?_
      exact y_nret E dX7_isOne_18 (by decide) hv
    · replace hv := ite_f hv c4
      refine y_iconst (v := 1) E dX7_isOne_13 (by decide) ?_
      refine y_goto (tgt := 18) E dX7_isOne_14 (by decide) ?_
      exact y_nret E dX7_isOne_18 (by decide) hv
theorem dX7_touching_0 : decode cX7_touching 0 = .ok (.iconst 4, 1) := by decide +kernel
theorem dX7_touching_1 : decode cX7_touching 1 = .ok (.ireturn, 1) := by decide +kernel
set_option maxRecDepth 100000 in
set_option maxHeartbeats 4000000 in
theorem kX7_touching (l : Launch) (w : wT) (hw : yOk w 55) (σ : Hp) (o : Nat) (a1 : Int32) (K : Int32 → Hp → Prop) (hv : VX7_touching K σ o a1) : yMet l w xcf 55 yX7_touching cX7_touching 2 (some .int) 1 [.ref (w.1 o), .int a1] σ (yQi w xcf 55 K) := by
  unfold VX7_touching at hv
  refine y_start (lv0 := [(0, .ref (w.1 o)), (1, .int a1)]) (by decide +kernel) (own := RX7) rfl hw (Nat.le_of_ble_eq_true rfl) rfl (fun p e s m below meth c A E => ?_)
  obtain ⟨hgo, hv⟩ := hv
  refine y_iconst (v := 4) E dX7_touching_0 (by decide) ?_
  exact y_iret E dX7_touching_1 hv
theorem dX8_isOne_0 : decode cX8_isOne 0 = .ok (.iload_n 1, 1) := by decide +kernel
theorem dX8_isOne_1 : decode cX8_isOne 1 = .ok (.iconst 3, 1) := by decide +kernel
theorem dX8_isOne_2 : decode cX8_isOne 2 = .ok (.if_icmp .eq 11, 3) := by decide +kernel
theorem dX8_isOne_5 : decode cX8_isOne 5 = .ok (.aload_n 0, 1) := by decide +kernel
theorem dX8_isOne_6 : decode cX8_isOne 6 = .ok (.iload_n 1, 1) := by decide +kernel
theorem dX8_isOne_7 : decode cX8_isOne 7 = .ok (.invokespecial 7, 3) := by decide +kernel
theorem dX8_isOne_10 : decode cX8_isOne 10 = .ok (.ifCond .eq 7, 3) := by decide +kernel
theorem dX8_isOne_13 : decode cX8_isOne 13 = .ok (.iconst 1, 1) := by decide +kernel
theorem dX8_isOne_14 : decode cX8_isOne 14 = .ok (.goto 4, 3) := by decide +kernel
theorem dX8_isOne_17 : decode cX8_isOne 17 = .ok (.iconst 0, 1) := by decide +kernel
theorem dX8_isOne_18 : decode cX8_isOne 18 = .ok (.ireturn, 1) := by decide +kernel
set_option maxRecDepth 100000 in
set_option maxHeartbeats 4000000 in
theorem kX8_isOne (l : Launch) (w : wT) (hw : yOk w 55) (σ : Hp) (o : Nat) (a1 : Int32) (K : Int32 → Hp → Prop) (hv : VX8_isOne K σ o a1) : yMet l w xcf 55 yX8_isOne cX8_isOne 2 (some .boolean) 3 [.ref (w.1 o), .int a1] σ (yQi w xcf 55 K) := by
  unfold VX8_isOne at hv
  refine y_start (lv0 := [(0, .ref (w.1 o)), (1, .int a1)]) (by decide +kernel) (own := RX8) rfl hw (Nat.le_of_ble_eq_true rfl) rfl (fun p e s m below meth c A E => ?_)
  obtain ⟨hgo, hv⟩ := hv
  refine y_iload_n E dX8_isOne_0 1 rfl ?_
  refine y_iconst (v := 3) E dX8_isOne_1 (by decide) ?_
  refine y_icmp_eq (tgt := 13) E dX8_isOne_2 (by decide) (fun c1 => ?_) (fun c1 => ?_)
  · replace hv := ite_t hv c1
    refine y_iconst (v := 1) E dX8_isOne_13 (by decide) ?_
    refine y_goto (tgt := 18) E dX8_isOne_14 (by decide) ?_
    exact y_nret E dX8_isOne_18 (by decide) hv
  · replace hv := ite_f hv c1
    refine y_aload_n E dX8_isOne_5 0 rfl ?_
    refine y_iload_n E dX8_isOne_6 1 rfl ?_
    obtain ⟨ci, fs, C9, T9, N9, hcl, hvc⟩ := xthing (w := w) (r := σ o) hgo
    refine y_calli E (y_runSU E (rest := []) (kX7_isOne l w E.2.2.1 σ o a1 _ hv) (y_cwSU 1 E.1.2.2.2.2 wm_235 wm_236 wm_237 wm_238 wm_239 wm_240 (by decide +kernel) (yRm_le (by decide) (by decide))) (Nat.lt_of_lt_of_le hgo.2 (by decide)) hcl hvc rfl rfl (Nat.le_of_ble_eq_true rfl) dX8_isOne_7) (fun v2 u3 hk => ?_)
    clear hv
    have hv := hk
    clear hk
    refine y_if_eq (tgt := 17) E dX8_isOne_10 (by decide) (fun c4 => ?_) (fun c4 => ?_)
    · replace hv := ite_t hv c4
      refine y_iconst (v := 0) E dX8_isOne_17 (by decide) ?_
      exact y_nret E dX8_isOne_18 (by decide) hv
    · replace hv := ite_f hv c4
      refine y_iconst (v := 1) E dX8_isOne_13 (by decide) ?_
      refine y_goto (tgt := 18) E dX8_isOne_14 (by decide) ?_
      exact y_nret E dX8_isOne_18 (by decide) hv
theorem dX8_moves_0 : decode cX8_moves 0 = .ok (.iload_n 1, 1) := by decide +kernel
theorem dX8_moves_1 : decode cX8_moves 1 = .ok (.iload_n 2, 1) := by decide +kernel
theorem dX8_moves_2 : decode cX8_moves 2 = .ok (.iconst 3, 1) := by decide +kernel
theorem dX8_moves_3 : decode cX8_moves 3 = .ok (.invokestatic 11, 3) := by decide +kernel
theorem dX8_moves_6 : decode cX8_moves 6 = .ok (.iconst 1, 1) := by decide +kernel
theorem dX8_moves_7 : decode cX8_moves 7 = .ok (.iadd, 1) := by decide +kernel
theorem dX8_moves_8 : decode cX8_moves 8 = .ok (.irem, 1) := by decide +kernel
theorem dX8_moves_9 : decode cX8_moves 9 = .ok (.ifCond .ne 7, 3) := by decide +kernel
theorem dX8_moves_12 : decode cX8_moves 12 = .ok (.iconst 1, 1) := by decide +kernel
theorem dX8_moves_13 : decode cX8_moves 13 = .ok (.goto 4, 3) := by decide +kernel
theorem dX8_moves_16 : decode cX8_moves 16 = .ok (.iconst 0, 1) := by decide +kernel
theorem dX8_moves_17 : decode cX8_moves 17 = .ok (.ireturn, 1) := by decide +kernel
set_option maxRecDepth 100000 in
set_option maxHeartbeats 4000000 in
theorem kX8_moves (l : Launch) (w : wT) (hw : yOk w 55) (σ : Hp) (o : Nat) (a1 : Int32) (a2 : Int32) (K : Int32 → Hp → Prop) (hv : VX8_moves K σ o a1 a2) : yMet l w xcf 55 yX8_moves cX8_moves 3 (some .boolean) 2 [.ref (w.1 o), .int a1, .int a2] σ (yQi w xcf 55 K) := by
  unfold VX8_moves at hv
  refine y_start (lv0 := [(0, .ref (w.1 o)), (1, .int a1), (2, .int a2)]) (by decide +kernel) (own := RX8) rfl hw (Nat.le_of_ble_eq_true rfl) rfl (fun p e s m below meth c A E => ?_)
  obtain ⟨hgo, hv⟩ := hv
  refine y_iload_n E dX8_moves_0 1 rfl ?_
  refine y_iload_n E dX8_moves_1 2 rfl ?_
  refine y_iconst (v := 3) E dX8_moves_2 (by decide) ?_
  refine y_calli E (y_runS E (rest := [.int a1]) (kJ9_floorMod_7cf53 l w E.2.2.1 σ a2 3 _ hv) (y_cwF 2 E.1.2.2.2.2 wm_241 wm_242 wm_243 wm_244 (by decide +kernel) (yRm_le (by decide) (by decide))) rfl rfl (Nat.le_of_ble_eq_true rfl) dX8_moves_3) (fun v1 u2 hk => ?_)
  clear hv
  have hv := hk
  clear hk
  refine y_iconst (v := 1) E dX8_moves_6 (by decide) ?_
  refine y_iadd E dX8_moves_7 ?_
  obtain ⟨hz, hv⟩ := hv
  refine y_irem E dX8_moves_8 hz ?_
  refine y_if_ne (tgt := 16) E dX8_moves_9 (by decide) (fun c3 => ?_) (fun c3 => ?_)
  · replace hv := ite_f hv c3
    refine y_iconst (v := 0) E dX8_moves_16 (by decide) ?_
    exact y_nret E dX8_moves_17 (by decide) hv
  · replace hv := ite_t hv c3
    refine y_iconst (v := 1) E dX8_moves_12 (by decide) ?_
    refine y_goto (tgt := 17) E dX8_moves_13 (by decide) ?_
    exact y_nret E dX8_moves_17 (by decide) hv
theorem dX10_touching_0 : decode cX10_touching 0 = .ok (.iload_n 1, 1) := by decide +kernel
theorem dX10_touching_1 : decode cX10_touching 1 = .ok (.iconst 2, 1) := by decide +kernel
theorem dX10_touching_2 : decode cX10_touching 2 = .ok (.iadd, 1) := by decide +kernel
theorem dX10_touching_3 : decode cX10_touching 3 = .ok (.iconst 4, 1) := by decide +kernel
theorem dX10_touching_4 : decode cX10_touching 4 = .ok (.irem, 1) := by decide +kernel
theorem dX10_touching_5 : decode cX10_touching 5 = .ok (.ireturn, 1) := by decide +kernel
set_option maxRecDepth 100000 in
set_option maxHeartbeats 4000000 in
theorem kX10_touching (l : Launch) (w : wT) (hw : yOk w 55) (σ : Hp) (o : Nat) (a1 : Int32) (K : Int32 → Hp → Prop) (hv : VX10_touching K σ o a1) : yMet l w xcf 55 yX10_touching cX10_touching 2 (some .int) 1 [.ref (w.1 o), .int a1] σ (yQi w xcf 55 K) := by
  unfold VX10_touching at hv
  refine y_start (lv0 := [(0, .ref (w.1 o)), (1, .int a1)]) (by decide +kernel) (own := RX10) rfl hw (Nat.le_of_ble_eq_true rfl) rfl (fun p e s m below meth c A E => ?_)
  obtain ⟨hgo, hv⟩ := hv
  refine y_iload_n E dX10_touching_0 1 rfl ?_
  refine y_iconst (v := 2) E dX10_touching_1 (by decide) ?_
  refine y_iadd E dX10_touching_2 ?_
  refine y_iconst (v := 4) E dX10_touching_3 (by decide) ?_
  refine y_irem E dX10_touching_4 (by decide) ?_
  exact y_iret E dX10_touching_5 hv
theorem dX10_moves_0 : decode cX10_moves 0 = .ok (.iconst 1, 1) := by decide +kernel
theorem dX10_moves_1 : decode cX10_moves 1 = .ok (.ireturn, 1) := by decide +kernel
set_option maxRecDepth 100000 in
set_option maxHeartbeats 4000000 in
theorem kX10_moves (l : Launch) (w : wT) (hw : yOk w 55) (σ : Hp) (o : Nat) (a1 : Int32) (a2 : Int32) (K : Int32 → Hp → Prop) (hv : VX10_moves K σ o a1 a2) : yMet l w xcf 55 yX10_moves cX10_moves 3 (some .boolean) 1 [.ref (w.1 o), .int a1, .int a2] σ (yQi w xcf 55 K) := by
  unfold VX10_moves at hv
  refine y_start (lv0 := [(0, .ref (w.1 o)), (1, .int a1), (2, .int a2)]) (by decide +kernel) (own := RX10) rfl hw (Nat.le_of_ble_eq_true rfl) rfl (fun p e s m below meth c A E => ?_)
  obtain ⟨hgo, hv⟩ := hv
  refine y_iconst (v := 1) E dX10_moves_0 (by decide) ?_
  exact y_nret E dX10_moves_1 (by decide) hv
set_option maxHeartbeats 4000000 in
theorem rP_blown {p : Program} {l : Launch} {e : Env} {d' : Nat} {s : State} {m : MethodId} {args : Array Value} {below : List Frame} {meth : Method} {c : Code} {w : wT} {A : Nat → Prop} {nL : Nat} {σ : Hp} {pc : Nat} {lv : List (Nat × Value)} {rest : List Value} {cc : ByteArray} {own : String} {r : Option FieldType} {index o : Nat} {a1 a2 : Int32} {K : Int32 → Hp → Prop} (E : YE p m meth c cc nL s args own r w 55 A) (hdd : 2 + 1 ≤ d') (hv : VP_blown K σ o a1 a2) (hlink : Cond.methodLink own index yX10_blown ∈ wG) (hr : (rest.map fun v => v.category).sum ≤ 8) (hd : decode cc pc = .ok (.invokevirtual index, 3)) : YR p l e (yRm d') s m args below meth c w xcf 55 A nL σ pc lv (.int a2 :: .int a1 ::  .ref (w.1 o) :: rest) rest (#[.ref (w.1 o), .int a1, .int a2]) (yQi w xcf 55 K) := by
  unfold VP_blown at hv
  by_cases h0 : o = 12
  · subst h0
    rw [if_pos rfl] at hv
    exact y_runU E (rest := rest) (kX10_blown l w E.2.2.1 σ 12 a1 a2 _ hv) (y_cwU (C := RX10) (owner := RX10) (x0 := yX10_blown) 2 E.1.2.2.2.2 hlink wm_131 wm_1073 wm_92 wm_93 wm_94 rfl (by decide +kernel) (yRm_le (by omega) (by decide))) (by decide) (xc_t0 (by decide) (by decide)) rfl rfl rfl hr hd
  rw [if_neg h0] at hv
  by_cases h1 : o = 13
  · subst h1
    rw [if_pos rfl] at hv
    exact y_runU E (rest := rest) (kX10_blown l w E.2.2.1 σ 13 a1 a2 _ hv) (y_cwU (C := RX7) (owner := RX10) (x0 := yX10_blown) 2 E.1.2.2.2.2 hlink wm_131 wm_1074 wm_92 wm_93 wm_94 rfl (by decide +kernel) (yRm_le (by omega) (by decide))) (by decide) (xc_t1 (by decide) (by decide)) rfl rfl rfl hr hd
  rw [if_neg h1] at hv
  by_cases h2 : o = 14
  · subst h2
    rw [if_pos rfl] at hv
    exact y_runU E (rest := rest) (kX10_blown l w E.2.2.1 σ 14 a1 a2 _ hv) (y_cwU (C := RX5) (owner := RX10) (x0 := yX10_blown) 2 E.1.2.2.2.2 hlink wm_131 wm_1075 wm_92 wm_93 wm_94 rfl (by decide +kernel) (yRm_le (by omega) (by decide))) (by decide) (xc_t2 (by decide) (by decide)) rfl rfl rfl hr hd
  rw [if_neg h2] at hv
  by_cases h3 : o = 15
  · subst h3
    rw [if_pos rfl] at hv
    exact y_runU E (rest := rest) (kX10_blown l w E.2.2.1 σ 15 a1 a2 _ hv) (y_cwU (C := RX8) (owner := RX10) (x0 := yX10_blown) 2 E.1.2.2.2.2 hlink wm_131 wm_1076 wm_92 wm_93 wm_94 rfl (by decide +kernel) (yRm_le (by omega) (by decide))) (by decide) (xc_t3 (by decide) (by decide)) rfl rfl rfl hr hd
  rw [if_neg h3] at hv
  by_cases h4 : o = 16
  · subst h4
    rw [if_pos rfl] at hv
    exact y_runU E (rest := rest) (kX0_blown l w E.2.2.1 σ 16 a1 a2 _ hv) (y_cwO (C := RX0) (owner := RX10) (x0 := yX10_blown) 2 E.1.2.2.2.2 hlink wm_131 wm_92 wm_1077 wm_1078 wm_733 wm_1079 wm_94 (by decide +kernel) (yRm_le (by omega) (by decide))) (by decide) (xc_t4 (by decide) (by decide)) rfl rfl rfl hr hd
  rw [if_neg h4] at hv
  by_cases h5 : o = 17
  · subst h5
    rw [if_pos rfl] at hv
    exact y_runU E (rest := rest) (kX2_blown l w E.2.2.1 σ 17 a1 a2 _ hv) (y_cwO (C := RX2) (owner := RX10) (x0 := yX10_blown) 2 E.1.2.2.2.2 hlink wm_131 wm_92 wm_1080 wm_1081 wm_738 wm_1082 wm_94 (by decide +kernel) (yRm_le (by omega) (by decide))) (by decide) (xc_t5 (by decide) (by decide)) rfl rfl rfl hr hd
  rw [if_neg h5] at hv
  exact hv.elim
set_option maxHeartbeats 4000000 in
theorem rP_moves {p : Program} {l : Launch} {e : Env} {d' : Nat} {s : State} {m : MethodId} {args : Array Value} {below : List Frame} {meth : Method} {c : Code} {w : wT} {A : Nat → Prop} {nL : Nat} {σ : Hp} {pc : Nat} {lv : List (Nat × Value)} {rest : List Value} {cc : ByteArray} {own : String} {r : Option FieldType} {index o : Nat} {a1 a2 : Int32} {K : Int32 → Hp → Prop} (E : YE p m meth c cc nL s args own r w 55 A) (hdd : 2 + 1 ≤ d') (hv : VP_moves K σ o a1 a2) (hlink : Cond.methodLink own index yX10_moves ∈ wG) (hr : (rest.map fun v => v.category).sum ≤ 8) (hd : decode cc pc = .ok (.invokevirtual index, 3)) : YR p l e (yRm d') s m args below meth c w xcf 55 A nL σ pc lv (.int a2 :: .int a1 ::  .ref (w.1 o) :: rest) rest (#[.ref (w.1 o), .int a1, .int a2]) (yQi w xcf 55 K) := by
  unfold VP_moves at hv
  by_cases h0 : o = 12
  · subst h0
    rw [if_pos rfl] at hv
    exact y_runU E (rest := rest) (kX10_moves l w E.2.2.1 σ 12 a1 a2 _ hv) (y_cwU (C := RX10) (owner := RX10) (x0 := yX10_moves) 2 E.1.2.2.2.2 hlink wm_1083 wm_1084 wm_1085 wm_93 wm_1086 rfl (by decide +kernel) (yRm_le (by omega) (by decide))) (by decide) (xc_t0 (by decide) (by decide)) rfl rfl rfl hr hd
  rw [if_neg h0] at hv
  by_cases h1 : o = 13
  · subst h1
    rw [if_pos rfl] at hv
    exact y_runU E (rest := rest) (kX10_moves l w E.2.2.1 σ 13 a1 a2 _ hv) (y_cwU (C := RX7) (owner := RX10) (x0 := yX10_moves) 2 E.1.2.2.2.2 hlink wm_1083 wm_1087 wm_1085 wm_93 wm_1086 rfl (by decide +kernel) (yRm_le (by omega) (by decide))) (by decide) (xc_t1 (by decide) (by decide)) rfl rfl rfl hr hd
  rw [if_neg h1] at hv
  by_cases h2 : o = 14
  · subst h2
    rw [if_pos rfl] at hv
    exact y_runU E (rest := rest) (kX10_moves l w E.2.2.1 σ 14 a1 a2 _ hv) (y_cwU (C := RX5) (owner := RX10) (x0 := yX10_moves) 2 E.1.2.2.2.2 hlink wm_1083 wm_1088 wm_1085 wm_93 wm_1086 rfl (by decide +kernel) (yRm_le (by omega) (by decide))) (by decide) (xc_t2 (by decide) (by decide)) rfl rfl rfl hr hd
  rw [if_neg h2] at hv
  by_cases h3 : o = 15
  · subst h3
    rw [if_pos rfl] at hv
    exact y_runU E (rest := rest) (kX8_moves l w E.2.2.1 σ 15 a1 a2 _ hv) (y_cwO (C := RX8) (owner := RX10) (x0 := yX10_moves) 2 E.1.2.2.2.2 hlink wm_1083 wm_1085 wm_1089 wm_1090 wm_728 wm_1091 wm_1086 (by decide +kernel) (yRm_le (by omega) (by decide))) (by decide) (xc_t3 (by decide) (by decide)) rfl rfl rfl hr hd
  rw [if_neg h3] at hv
  by_cases h4 : o = 16
  · subst h4
    rw [if_pos rfl] at hv
    exact y_runU E (rest := rest) (kX10_moves l w E.2.2.1 σ 16 a1 a2 _ hv) (y_cwU (C := RX0) (owner := RX10) (x0 := yX10_moves) 2 E.1.2.2.2.2 hlink wm_1083 wm_1092 wm_1085 wm_93 wm_1086 rfl (by decide +kernel) (yRm_le (by omega) (by decide))) (by decide) (xc_t4 (by decide) (by decide)) rfl rfl rfl hr hd
  rw [if_neg h4] at hv
  by_cases h5 : o = 17
  · subst h5
    rw [if_pos rfl] at hv
    exact y_runU E (rest := rest) (kX10_moves l w E.2.2.1 σ 17 a1 a2 _ hv) (y_cwU (C := RX2) (owner := RX10) (x0 := yX10_moves) 2 E.1.2.2.2.2 hlink wm_1083 wm_1093 wm_1085 wm_93 wm_1086 rfl (by decide +kernel) (yRm_le (by omega) (by decide))) (by decide) (xc_t5 (by decide) (by decide)) rfl rfl rfl hr hd
  rw [if_neg h5] at hv
  exact hv.elim
set_option maxHeartbeats 4000000 in
theorem rP_touching {p : Program} {l : Launch} {e : Env} {d' : Nat} {s : State} {m : MethodId} {args : Array Value} {below : List Frame} {meth : Method} {c : Code} {w : wT} {A : Nat → Prop} {nL : Nat} {σ : Hp} {pc : Nat} {lv : List (Nat × Value)} {rest : List Value} {cc : ByteArray} {own : String} {r : Option FieldType} {index o : Nat} {a1 : Int32} {K : Int32 → Hp → Prop} (E : YE p m meth c cc nL s args own r w 55 A) (hdd : 1 + 1 ≤ d') (hv : VP_touching K σ o a1) (hlink : Cond.methodLink own index yX10_touching ∈ wG) (hr : (rest.map fun v => v.category).sum ≤ 8) (hd : decode cc pc = .ok (.invokevirtual index, 3)) : YR p l e (yRm d') s m args below meth c w xcf 55 A nL σ pc lv (.int a1 ::  .ref (w.1 o) :: rest) rest (#[.ref (w.1 o), .int a1]) (yQi w xcf 55 K) := by
  unfold VP_touching at hv
  by_cases h0 : o = 12
  · subst h0
    rw [if_pos rfl] at hv
    exact y_runU E (rest := rest) (kX10_touching l w E.2.2.1 σ 12 a1 _ hv) (y_cwU (C := RX10) (owner := RX10) (x0 := yX10_touching) 1 E.1.2.2.2.2 hlink wm_1094 wm_1095 wm_1096 wm_93 wm_1097 rfl (by decide +kernel) (yRm_le (by omega) (by decide))) (by decide) (xc_t0 (by decide) (by decide)) rfl rfl rfl hr hd
  rw [if_neg h0] at hv
  by_cases h1 : o = 13
  · subst h1
    rw [if_pos rfl] at hv
    exact y_runU E (rest := rest) (kX7_touching l w E.2.2.1 σ 13 a1 _ hv) (y_cwO (C := RX7) (owner := RX10) (x0 := yX10_touching) 1 E.1.2.2.2.2 hlink wm_1094 wm_1096 wm_1098 wm_1099 wm_239 wm_1100 wm_1097 (by decide +kernel) (yRm_le (by omega) (by decide))) (by decide) (xc_t1 (by decide) (by decide)) rfl rfl rfl hr hd
  rw [if_neg h1] at hv
  by_cases h2 : o = 14
  · subst h2
    rw [if_pos rfl] at hv
    exact y_runU E (rest := rest) (kX5_touching l w E.2.2.1 σ 14 a1 _ hv) (y_cwO (C := RX5) (owner := RX10) (x0 := yX10_touching) 1 E.1.2.2.2.2 hlink wm_1094 wm_1096 wm_1101 wm_1102 wm_87 wm_1103 wm_1097 (by decide +kernel) (yRm_le (by omega) (by decide))) (by decide) (xc_t2 (by decide) (by decide)) rfl rfl rfl hr hd
  rw [if_neg h2] at hv
  by_cases h3 : o = 15
  · subst h3
    rw [if_pos rfl] at hv
    exact y_runU E (rest := rest) (kX7_touching l w E.2.2.1 σ 15 a1 _ hv) (y_cwO (C := RX8) (owner := RX10) (x0 := yX10_touching) 1 E.1.2.2.2.2 hlink wm_1094 wm_1096 wm_1104 wm_1099 wm_239 wm_1100 wm_1097 (by decide +kernel) (yRm_le (by omega) (by decide))) (by decide) (xc_t3 (by decide) (by decide)) rfl rfl rfl hr hd
  rw [if_neg h3] at hv
  by_cases h4 : o = 16
  · subst h4
    rw [if_pos rfl] at hv
    exact y_runU E (rest := rest) (kX5_touching l w E.2.2.1 σ 16 a1 _ hv) (y_cwO (C := RX0) (owner := RX10) (x0 := yX10_touching) 1 E.1.2.2.2.2 hlink wm_1094 wm_1096 wm_1105 wm_1102 wm_87 wm_1103 wm_1097 (by decide +kernel) (yRm_le (by omega) (by decide))) (by decide) (xc_t4 (by decide) (by decide)) rfl rfl rfl hr hd
  rw [if_neg h4] at hv
  by_cases h5 : o = 17
  · subst h5
    rw [if_pos rfl] at hv
    exact y_runU E (rest := rest) (kX10_touching l w E.2.2.1 σ 17 a1 _ hv) (y_cwU (C := RX2) (owner := RX10) (x0 := yX10_touching) 1 E.1.2.2.2.2 hlink wm_1094 wm_1106 wm_1096 wm_93 wm_1097 rfl (by decide +kernel) (yRm_le (by omega) (by decide))) (by decide) (xc_t5 (by decide) (by decide)) rfl rfl rfl hr hd
  rw [if_neg h5] at hv
  exact hv.elim
set_option maxHeartbeats 4000000 in
theorem rP_isOne {p : Program} {l : Launch} {e : Env} {d' : Nat} {s : State} {m : MethodId} {args : Array Value} {below : List Frame} {meth : Method} {c : Code} {w : wT} {A : Nat → Prop} {nL : Nat} {σ : Hp} {pc : Nat} {lv : List (Nat × Value)} {rest : List Value} {cc : ByteArray} {own : String} {r : Option FieldType} {index o : Nat} {a1 : Int32} {K : Int32 → Hp → Prop} (E : YE p m meth c cc nL s args own r w 55 A) (hdd : 3 + 1 ≤ d') (hv : VP_isOne K σ o a1) (hlink : Cond.methodLink own index yX10_isOne ∈ wG) (hr : (rest.map fun v => v.category).sum ≤ 8) (hd : decode cc pc = .ok (.invokevirtual index, 3)) : YR p l e (yRm d') s m args below meth c w xcf 55 A nL σ pc lv (.int a1 ::  .ref (w.1 o) :: rest) rest (#[.ref (w.1 o), .int a1]) (yQi w xcf 55 K) := by
  unfold VP_isOne at hv
  by_cases h0 : o = 12
  · subst h0
    rw [if_pos rfl] at hv
    exact y_runU E (rest := rest) (kX10_isOne l w E.2.2.1 σ 12 a1 _ hv) (y_cwU (C := RX10) (owner := RX10) (x0 := yX10_isOne) 1 E.1.2.2.2.2 hlink wm_126 wm_1107 wm_128 wm_93 wm_129 rfl (by decide +kernel) (yRm_le (by omega) (by decide))) (by decide) (xc_t0 (by decide) (by decide)) rfl rfl rfl hr hd
  rw [if_neg h0] at hv
  by_cases h1 : o = 13
  · subst h1
    rw [if_pos rfl] at hv
    exact y_runU E (rest := rest) (kX7_isOne l w E.2.2.1 σ 13 a1 _ hv) (y_cwO (C := RX7) (owner := RX10) (x0 := yX10_isOne) 1 E.1.2.2.2.2 hlink wm_126 wm_128 wm_1108 wm_238 wm_239 wm_240 wm_129 (by decide +kernel) (yRm_le (by omega) (by decide))) (by decide) (xc_t1 (by decide) (by decide)) rfl rfl rfl hr hd
  rw [if_neg h1] at hv
  by_cases h2 : o = 14
  · subst h2
    rw [if_pos rfl] at hv
    exact y_runU E (rest := rest) (kX5_isOne l w E.2.2.1 σ 14 a1 _ hv) (y_cwO (C := RX5) (owner := RX10) (x0 := yX10_isOne) 1 E.1.2.2.2.2 hlink wm_126 wm_128 wm_1109 wm_86 wm_87 wm_88 wm_129 (by decide +kernel) (yRm_le (by omega) (by decide))) (by decide) (xc_t2 (by decide) (by decide)) rfl rfl rfl hr hd
  rw [if_neg h2] at hv
  by_cases h3 : o = 15
  · subst h3
    rw [if_pos rfl] at hv
    exact y_runU E (rest := rest) (kX8_isOne l w E.2.2.1 σ 15 a1 _ hv) (y_cwO (C := RX8) (owner := RX10) (x0 := yX10_isOne) 1 E.1.2.2.2.2 hlink wm_126 wm_128 wm_1110 wm_1111 wm_728 wm_1112 wm_129 (by decide +kernel) (yRm_le (by omega) (by decide))) (by decide) (xc_t3 (by decide) (by decide)) rfl rfl rfl hr hd
  rw [if_neg h3] at hv
  by_cases h4 : o = 16
  · subst h4
    rw [if_pos rfl] at hv
    exact y_runU E (rest := rest) (kX0_isOne l w E.2.2.1 σ 16 a1 _ hv) (y_cwO (C := RX0) (owner := RX10) (x0 := yX10_isOne) 1 E.1.2.2.2.2 hlink wm_126 wm_128 wm_1113 wm_1114 wm_733 wm_1115 wm_129 (by decide +kernel) (yRm_le (by omega) (by decide))) (by decide) (xc_t4 (by decide) (by decide)) rfl rfl rfl hr hd
  rw [if_neg h4] at hv
  by_cases h5 : o = 17
  · subst h5
    rw [if_pos rfl] at hv
    exact y_runU E (rest := rest) (kX2_isOne l w E.2.2.1 σ 17 a1 _ hv) (y_cwO (C := RX2) (owner := RX10) (x0 := yX10_isOne) 1 E.1.2.2.2.2 hlink wm_126 wm_128 wm_1116 wm_1117 wm_738 wm_1118 wm_129 (by decide +kernel) (yRm_le (by omega) (by decide))) (by decide) (xc_t5 (by decide) (by decide)) rfl rfl rfl hr hd
  rw [if_neg h5] at hv
  exact hv.elim
