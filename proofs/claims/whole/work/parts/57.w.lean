theorem dX12_thing_0 : decode cX12_thing 0 = .ok (.iload_n 1, 1) := by decide +kernel
theorem dX12_thing_1 : decode cX12_thing 1 = .ok (.iconst 0, 1) := by decide +kernel
theorem dX12_thing_2 : decode cX12_thing 2 = .ok (.bipush 59, 2) := by decide +kernel
theorem dX12_thing_4 : decode cX12_thing 4 = .ok (.invokestatic 75, 3) := by decide +kernel
theorem dX12_thing_7 : decode cX12_thing 7 = .ok (.ifCond .eq 20, 3) := by decide +kernel
theorem dX12_thing_10 : decode cX12_thing 10 = .ok (.aload_n 0, 1) := by decide +kernel
theorem dX12_thing_11 : decode cX12_thing 11 = .ok (.iload_n 2, 1) := by decide +kernel
theorem dX12_thing_12 : decode cX12_thing 12 = .ok (.invokevirtual 175, 3) := by decide +kernel
theorem dX12_thing_15 : decode cX12_thing 15 = .ok (.ifCond .eq 12, 3) := by decide +kernel
theorem dX12_thing_18 : decode cX12_thing 18 = .ok (.iload_n 3, 1) := by decide +kernel
theorem dX12_thing_19 : decode cX12_thing 19 = .ok (.iconst 0, 1) := by decide +kernel
theorem dX12_thing_20 : decode cX12_thing 20 = .ok (.iconst 4, 1) := by decide +kernel
theorem dX12_thing_21 : decode cX12_thing 21 = .ok (.invokestatic 75, 3) := by decide +kernel
theorem dX12_thing_24 : decode cX12_thing 24 = .ok (.ifCond .ne 6, 3) := by decide +kernel
theorem dX12_thing_27 : decode cX12_thing 27 = .ok (.bipush (-2), 2) := by decide +kernel
theorem dX12_thing_29 : decode cX12_thing 29 = .ok (.ireturn, 1) := by decide +kernel
theorem dX12_thing_30 : decode cX12_thing 30 = .ok (.aload_n 0, 1) := by decide +kernel
theorem dX12_thing_31 : decode cX12_thing 31 = .ok (.getfield 87, 3) := by decide +kernel
theorem dX12_thing_34 : decode cX12_thing 34 = .ok (.iconst 5, 1) := by decide +kernel
theorem dX12_thing_35 : decode cX12_thing 35 = .ok (.if_icmp .ne 6, 3) := by decide +kernel
theorem dX12_thing_38 : decode cX12_thing 38 = .ok (.bipush (-4), 2) := by decide +kernel
theorem dX12_thing_40 : decode cX12_thing 40 = .ok (.ireturn, 1) := by decide +kernel
theorem dX12_thing_41 : decode cX12_thing 41 = .ok (.aload_n 0, 1) := by decide +kernel
theorem dX12_thing_42 : decode cX12_thing 42 = .ok (.getfield 13, 3) := by decide +kernel
theorem dX12_thing_45 : decode cX12_thing 45 = .ok (.aload_n 0, 1) := by decide +kernel
theorem dX12_thing_46 : decode cX12_thing 46 = .ok (.getfield 87, 3) := by decide +kernel
theorem dX12_thing_49 : decode cX12_thing 49 = .ok (.iload_n 1, 1) := by decide +kernel
theorem dX12_thing_50 : decode cX12_thing 50 = .ok (.bipush 10, 2) := by decide +kernel
theorem dX12_thing_52 : decode cX12_thing 52 = .ok (.idiv, 1) := by decide +kernel
theorem dX12_thing_53 : decode cX12_thing 53 = .ok (.iastore, 1) := by decide +kernel
theorem dX12_thing_54 : decode cX12_thing 54 = .ok (.aload_n 0, 1) := by decide +kernel
theorem dX12_thing_55 : decode cX12_thing 55 = .ok (.getfield 16, 3) := by decide +kernel
theorem dX12_thing_58 : decode cX12_thing 58 = .ok (.aload_n 0, 1) := by decide +kernel
theorem dX12_thing_59 : decode cX12_thing 59 = .ok (.getfield 87, 3) := by decide +kernel
theorem dX12_thing_62 : decode cX12_thing 62 = .ok (.iload_n 1, 1) := by decide +kernel
theorem dX12_thing_63 : decode cX12_thing 63 = .ok (.bipush 10, 2) := by decide +kernel
theorem dX12_thing_65 : decode cX12_thing 65 = .ok (.irem, 1) := by decide +kernel
theorem dX12_thing_66 : decode cX12_thing 66 = .ok (.iastore, 1) := by decide +kernel
theorem dX12_thing_67 : decode cX12_thing 67 = .ok (.aload_n 0, 1) := by decide +kernel
theorem dX12_thing_68 : decode cX12_thing 68 = .ok (.getfield 19, 3) := by decide +kernel
theorem dX12_thing_71 : decode cX12_thing 71 = .ok (.aload_n 0, 1) := by decide +kernel
theorem dX12_thing_72 : decode cX12_thing 72 = .ok (.getfield 87, 3) := by decide +kernel
theorem dX12_thing_75 : decode cX12_thing 75 = .ok (.iload_n 2, 1) := by decide +kernel
theorem dX12_thing_76 : decode cX12_thing 76 = .ok (.iastore, 1) := by decide +kernel
theorem dX12_thing_77 : decode cX12_thing 77 = .ok (.aload_n 0, 1) := by decide +kernel
theorem dX12_thing_78 : decode cX12_thing 78 = .ok (.getfield 22, 3) := by decide +kernel
theorem dX12_thing_81 : decode cX12_thing 81 = .ok (.aload_n 0, 1) := by decide +kernel
theorem dX12_thing_82 : decode cX12_thing 82 = .ok (.getfield 87, 3) := by decide +kernel
theorem dX12_thing_85 : decode cX12_thing 85 = .ok (.iload_n 3, 1) := by decide +kernel
theorem dX12_thing_86 : decode cX12_thing 86 = .ok (.iastore, 1) := by decide +kernel
theorem dX12_thing_87 : decode cX12_thing 87 = .ok (.aload_n 0, 1) := by decide +kernel
theorem dX12_thing_88 : decode cX12_thing 88 = .ok (.dup, 1) := by decide +kernel
theorem dX12_thing_89 : decode cX12_thing 89 = .ok (.getfield 87, 3) := by decide +kernel
theorem dX12_thing_92 : decode cX12_thing 92 = .ok (.iconst 1, 1) := by decide +kernel
theorem dX12_thing_93 : decode cX12_thing 93 = .ok (.iadd, 1) := by decide +kernel
theorem dX12_thing_94 : decode cX12_thing 94 = .ok (.putfield 87, 3) := by decide +kernel
theorem dX12_thing_97 : decode cX12_thing 97 = .ok (.aload_n 0, 1) := by decide +kernel
theorem dX12_thing_98 : decode cX12_thing 98 = .ok (.getfield 87, 3) := by decide +kernel
theorem dX12_thing_101 : decode cX12_thing 101 = .ok (.iconst 1, 1) := by decide +kernel
theorem dX12_thing_102 : decode cX12_thing 102 = .ok (.isub, 1) := by decide +kernel
theorem dX12_thing_103 : decode cX12_thing 103 = .ok (.ireturn, 1) := by decide +kernel
set_option maxRecDepth 100000 in
set_option maxHeartbeats 4000000 in
theorem kX12_thing (l : Launch) (w : wT) (hw : yOk w 20) (σ : Hp) (a1 : Int32) (a2 : Int32) (a3 : Int32) (K : Int32 → Hp → Prop) (hv : VX12_thing K σ a1 a2 a3) : yMet l w mcf 20 yX12_thing cX12_thing 4 (some .int) 4 [.ref (w.1 0), .int a1, .int a2, .int a3] σ (yQi w mcf 20 K) := by
  unfold VX12_thing at hv
  refine y_start (lv0 := [(0, .ref (w.1 0)), (1, .int a1), (2, .int a2), (3, .int a3)]) (by decide +kernel) (own := RX12) rfl hw (Nat.le_of_ble_eq_true rfl) rfl (fun p e s m below meth c A E => ?_)
  refine y_iload_n E dX12_thing_0 1 rfl ?_
  refine y_iconst (v := 0) E dX12_thing_1 (by decide) ?_
  refine y_bipush (v := 59) E dX12_thing_2 (by decide) ?_
  refine y_calli E (y_runS E (rest := []) (kX12_in l w E.2.2.1 σ a1 0 59 _ hv) (y_cwS 3 E.1.2.2.2.2 wm_477 wm_478 wm_479 wm_480 (by decide +kernel) (yRm_le (by decide) (by decide))) rfl rfl (Nat.le_of_ble_eq_true rfl) dX12_thing_4) (fun v1 u2 hk => ?_)
  clear hv
  have hv := hk
  clear hk
  refine y_if_eq (tgt := 27) E dX12_thing_7 (by decide) (fun c3 => ?_) (fun c3 => ?_)
  · replace hv := ite_t hv c3
    refine y_bipush (v := (-2)) E dX12_thing_27 (by decide) ?_
    exact y_iret E dX12_thing_29 hv
  · replace hv := ite_f hv c3
    refine y_aload_n E dX12_thing_10 0 rfl ?_
    refine y_iload_n E dX12_thing_11 2 rfl ?_
    refine y_calli E (y_runV E (rest := []) (kX12_isFree l w E.2.2.1 u2 a2 _ hv) (y_cwV 1 E.1.2.2.2.2 wm_570 wm_574 wm_575 wm_479 wm_576 (by decide +kernel) (yRm_le (by decide) (by decide))) (Nat.lt_of_lt_of_le (show 0 < 1 by decide) (by decide)) (mc_X12 (by decide) (by decide)) rfl rfl rfl (Nat.le_of_ble_eq_true rfl) dX12_thing_12) (fun v4 u5 hk => ?_)
    clear hv
    have hv := hk
    clear hk
    refine y_if_eq (tgt := 27) E dX12_thing_15 (by decide) (fun c6 => ?_) (fun c6 => ?_)
    · replace hv := ite_t hv c6
      refine y_bipush (v := (-2)) E dX12_thing_27 (by decide) ?_
      exact y_iret E dX12_thing_29 hv
    · replace hv := ite_f hv c6
      refine y_iload_n E dX12_thing_18 3 rfl ?_
      refine y_iconst (v := 0) E dX12_thing_19 (by decide) ?_
      refine y_iconst (v := 4) E dX12_thing_20 (by decide) ?_
      refine y_calli E (y_runS E (rest := []) (kX12_in l w E.2.2.1 u5 a3 0 4 _ hv) (y_cwS 3 E.1.2.2.2.2 wm_477 wm_478 wm_479 wm_480 (by decide +kernel) (yRm_le (by decide) (by decide))) rfl rfl (Nat.le_of_ble_eq_true rfl) dX12_thing_21) (fun v7 u8 hk => ?_)
      clear hv
      have hv := hk
      clear hk
      refine y_if_ne (tgt := 30) E dX12_thing_24 (by decide) (fun c9 => ?_) (fun c9 => ?_)
      · replace hv := ite_f hv c9
        refine y_aload_n E dX12_thing_30 0 rfl ?_
        refine gf_X12_2 E (by decide) (by decide) wm_489 dX12_thing_31 ?_
        refine y_iconst (v := 5) E dX12_thing_34 (by decide) ?_
        refine y_icmp_ne (tgt := 41) E dX12_thing_35 (by decide) (fun c10 => ?_) (fun c10 => ?_)
        · replace hv := ite_f hv c10
          refine y_aload_n E dX12_thing_41 0 rfl ?_
          refine gf_X12_3 E (by decide) (by decide) wm_571 dX12_thing_42 ?_
          refine y_aload_n E dX12_thing_45 0 rfl ?_
          refine gf_X12_2 E (by decide) (by decide) wm_489 dX12_thing_46 ?_
          refine y_iload_n E dX12_thing_49 1 rfl ?_
          refine y_bipush (v := 10) E dX12_thing_50 (by decide) ?_
          refine y_idiv E dX12_thing_52 (by decide) ?_
          obtain ⟨hi, hv⟩ := hv
          refine y_iast E (Nat.lt_of_lt_of_le (show 2 < 3 by decide) (by decide)) (fun _ => mc_m_kind (by decide) (by decide)) hi dX12_thing_53 ?_
          refine y_nmH (fun u11 hu11 => ?_)
          replace hv := hv u11 hu11
          refine y_aload_n E dX12_thing_54 0 rfl ?_
          refine gf_X12_4 E (by decide) (by decide) wm_572 dX12_thing_55 ?_
          refine y_aload_n E dX12_thing_58 0 rfl ?_
          refine gf_X12_2 E (by decide) (by decide) wm_489 dX12_thing_59 ?_
          refine y_iload_n E dX12_thing_62 1 rfl ?_
          refine y_bipush (v := 10) E dX12_thing_63 (by decide) ?_
          refine y_irem E dX12_thing_65 (by decide) ?_
          obtain ⟨hi, hv⟩ := hv
          refine y_iast E (Nat.lt_of_lt_of_le (show 3 < 4 by decide) (by decide)) (fun _ => mc_m_moreOf (by decide) (by decide)) hi dX12_thing_66 ?_
          refine y_nmH (fun u12 hu12 => ?_)
          replace hv := hv u12 hu12
          refine y_aload_n E dX12_thing_67 0 rfl ?_
          refine gf_X12_5 E (by decide) (by decide) wm_490 dX12_thing_68 ?_
          refine y_aload_n E dX12_thing_71 0 rfl ?_
          refine gf_X12_2 E (by decide) (by decide) wm_489 dX12_thing_72 ?_
          refine y_iload_n E dX12_thing_75 2 rfl ?_
          obtain ⟨hi, hv⟩ := hv
          refine y_iast E (Nat.lt_of_lt_of_le (show 4 < 5 by decide) (by decide)) (fun _ => mc_m_cellOf (by decide) (by decide)) hi dX12_thing_76 ?_
          refine y_nmH (fun u13 hu13 => ?_)
          replace hv := hv u13 hu13
          refine y_aload_n E dX12_thing_77 0 rfl ?_
          refine gf_X12_6 E (by decide) (by decide) wm_573 dX12_thing_78 ?_
          refine y_aload_n E dX12_thing_81 0 rfl ?_
          refine gf_X12_2 E (by decide) (by decide) wm_489 dX12_thing_82 ?_
          refine y_iload_n E dX12_thing_85 3 rfl ?_
          obtain ⟨hi, hv⟩ := hv
          refine y_iast E (Nat.lt_of_lt_of_le (show 5 < 6 by decide) (by decide)) (fun _ => mc_m_wayOf (by decide) (by decide)) hi dX12_thing_86 ?_
          refine y_nmH (fun u14 hu14 => ?_)
          replace hv := hv u14 hu14
          refine y_aload_n E dX12_thing_87 0 rfl ?_
          refine y_dup E dX12_thing_88 rfl ?_
          refine gf_X12_2 E (by decide) (by decide) wm_489 dX12_thing_89 ?_
          refine y_iconst (v := 1) E dX12_thing_92 (by decide) ?_
          refine y_iadd E dX12_thing_93 ?_
          refine pf_X12_2 E (by decide) (by decide) wm_489 dX12_thing_94 ?_
          refine y_nmH (fun u15 hu15 => ?_)
          replace hv := hv u15 hu15
          refine y_aload_n E dX12_thing_97 0 rfl ?_
          refine gf_X12_2 E (by decide) (by decide) wm_489 dX12_thing_98 ?_
          refine y_iconst (v := 1) E dX12_thing_101 (by decide) ?_
          refine y_isub E dX12_thing_102 ?_
          exact y_iret E dX12_thing_103 hv
        · replace hv := ite_t hv c10
          refine y_bipush (v := (-4)) E dX12_thing_38 (by decide) ?_
          exact y_iret E dX12_thing_40 hv
      · replace hv := ite_t hv c9
        refine y_bipush (v := (-2)) E dX12_thing_27 (by decide) ?_
        exact y_iret E dX12_thing_29 hv
theorem dX12_put_0 : decode cX12_put 0 = .ok (.aload_n 0, 1) := by decide +kernel
theorem dX12_put_1 : decode cX12_put 1 = .ok (.iload_n 1, 1) := by decide +kernel
theorem dX12_put_2 : decode cX12_put 2 = .ok (.invokevirtual 178, 3) := by decide +kernel
theorem dX12_put_5 : decode cX12_put 5 = .ok (.ifCond .ne 6, 3) := by decide +kernel
theorem dX12_put_8 : decode cX12_put 8 = .ok (.bipush (-5), 2) := by decide +kernel
theorem dX12_put_10 : decode cX12_put 10 = .ok (.ireturn, 1) := by decide +kernel
theorem dX12_put_11 : decode cX12_put 11 = .ok (.aload_n 0, 1) := by decide +kernel
theorem dX12_put_12 : decode cX12_put 12 = .ok (.iload_n 2, 1) := by decide +kernel
theorem dX12_put_13 : decode cX12_put 13 = .ok (.invokevirtual 175, 3) := by decide +kernel
theorem dX12_put_16 : decode cX12_put 16 = .ok (.ifCond .eq 12, 3) := by decide +kernel
theorem dX12_put_19 : decode cX12_put 19 = .ok (.iload_n 3, 1) := by decide +kernel
theorem dX12_put_20 : decode cX12_put 20 = .ok (.iconst 0, 1) := by decide +kernel
theorem dX12_put_21 : decode cX12_put 21 = .ok (.iconst 4, 1) := by decide +kernel
theorem dX12_put_22 : decode cX12_put 22 = .ok (.invokestatic 75, 3) := by decide +kernel
theorem dX12_put_25 : decode cX12_put 25 = .ok (.ifCond .ne 6, 3) := by decide +kernel
theorem dX12_put_28 : decode cX12_put 28 = .ok (.bipush (-7), 2) := by decide +kernel
theorem dX12_put_30 : decode cX12_put 30 = .ok (.ireturn, 1) := by decide +kernel
theorem dX12_put_31 : decode cX12_put 31 = .ok (.aload_n 0, 1) := by decide +kernel
theorem dX12_put_32 : decode cX12_put 32 = .ok (.getfield 19, 3) := by decide +kernel
theorem dX12_put_35 : decode cX12_put 35 = .ok (.iload_n 1, 1) := by decide +kernel
theorem dX12_put_36 : decode cX12_put 36 = .ok (.iaload, 1) := by decide +kernel
theorem dX12_put_37 : decode cX12_put 37 = .ok (.istore 4, 2) := by decide +kernel
theorem dX12_put_39 : decode cX12_put 39 = .ok (.aload_n 0, 1) := by decide +kernel
theorem dX12_put_40 : decode cX12_put 40 = .ok (.getfield 19, 3) := by decide +kernel
theorem dX12_put_43 : decode cX12_put 43 = .ok (.iload_n 1, 1) := by decide +kernel
theorem dX12_put_44 : decode cX12_put 44 = .ok (.iload_n 2, 1) := by decide +kernel
theorem dX12_put_45 : decode cX12_put 45 = .ok (.iastore, 1) := by decide +kernel
theorem dX12_put_46 : decode cX12_put 46 = .ok (.aload_n 0, 1) := by decide +kernel
theorem dX12_put_47 : decode cX12_put 47 = .ok (.getfield 22, 3) := by decide +kernel
theorem dX12_put_50 : decode cX12_put 50 = .ok (.iload_n 1, 1) := by decide +kernel
theorem dX12_put_51 : decode cX12_put 51 = .ok (.iload_n 3, 1) := by decide +kernel
theorem dX12_put_52 : decode cX12_put 52 = .ok (.iastore, 1) := by decide +kernel
theorem dX12_put_53 : decode cX12_put 53 = .ok (.iload 4, 2) := by decide +kernel
theorem dX12_put_55 : decode cX12_put 55 = .ok (.ireturn, 1) := by decide +kernel
set_option maxRecDepth 100000 in
set_option maxHeartbeats 4000000 in
theorem kX12_put (l : Launch) (w : wT) (hw : yOk w 20) (σ : Hp) (a1 : Int32) (a2 : Int32) (a3 : Int32) (K : Int32 → Hp → Prop) (hv : VX12_put K σ a1 a2 a3) : yMet l w mcf 20 yX12_put cX12_put 5 (some .int) 4 [.ref (w.1 0), .int a1, .int a2, .int a3] σ (yQi w mcf 20 K) := by
  unfold VX12_put at hv
  refine y_start (lv0 := [(0, .ref (w.1 0)), (1, .int a1), (2, .int a2), (3, .int a3)]) (by decide +kernel) (own := RX12) rfl hw (Nat.le_of_ble_eq_true rfl) rfl (fun p e s m below meth c A E => ?_)
  refine y_aload_n E dX12_put_0 0 rfl ?_
  refine y_iload_n E dX12_put_1 1 rfl ?_
  refine y_calli E (y_runV E (rest := []) (kX12_isThing l w E.2.2.1 σ a1 _ hv) (y_cwV 1 E.1.2.2.2.2 wm_577 wm_578 wm_579 wm_479 wm_580 (by decide +kernel) (yRm_le (by decide) (by decide))) (Nat.lt_of_lt_of_le (show 0 < 1 by decide) (by decide)) (mc_X12 (by decide) (by decide)) rfl rfl rfl (Nat.le_of_ble_eq_true rfl) dX12_put_2) (fun v1 u2 hk => ?_)
  clear hv
  have hv := hk
  clear hk
  refine y_if_ne (tgt := 11) E dX12_put_5 (by decide) (fun c3 => ?_) (fun c3 => ?_)
  · replace hv := ite_f hv c3
    refine y_aload_n E dX12_put_11 0 rfl ?_
    refine y_iload_n E dX12_put_12 2 rfl ?_
    refine y_calli E (y_runV E (rest := []) (kX12_isFree l w E.2.2.1 u2 a2 _ hv) (y_cwV 1 E.1.2.2.2.2 wm_570 wm_574 wm_575 wm_479 wm_576 (by decide +kernel) (yRm_le (by decide) (by decide))) (Nat.lt_of_lt_of_le (show 0 < 1 by decide) (by decide)) (mc_X12 (by decide) (by decide)) rfl rfl rfl (Nat.le_of_ble_eq_true rfl) dX12_put_13) (fun v4 u5 hk => ?_)
    clear hv
    have hv := hk
    clear hk
    refine y_if_eq (tgt := 28) E dX12_put_16 (by decide) (fun c6 => ?_) (fun c6 => ?_)
    · replace hv := ite_t hv c6
      refine y_bipush (v := (-7)) E dX12_put_28 (by decide) ?_
      exact y_iret E dX12_put_30 hv
    · replace hv := ite_f hv c6
      refine y_iload_n E dX12_put_19 3 rfl ?_
      refine y_iconst (v := 0) E dX12_put_20 (by decide) ?_
      refine y_iconst (v := 4) E dX12_put_21 (by decide) ?_
      refine y_calli E (y_runS E (rest := []) (kX12_in l w E.2.2.1 u5 a3 0 4 _ hv) (y_cwS 3 E.1.2.2.2.2 wm_477 wm_478 wm_479 wm_480 (by decide +kernel) (yRm_le (by decide) (by decide))) rfl rfl (Nat.le_of_ble_eq_true rfl) dX12_put_22) (fun v7 u8 hk => ?_)
      clear hv
      have hv := hk
      clear hk
      refine y_if_ne (tgt := 31) E dX12_put_25 (by decide) (fun c9 => ?_) (fun c9 => ?_)
      · replace hv := ite_f hv c9
        refine y_aload_n E dX12_put_31 0 rfl ?_
        refine gf_X12_5 E (by decide) (by decide) wm_490 dX12_put_32 ?_
        refine y_iload_n E dX12_put_35 1 rfl ?_
        obtain ⟨hi, hv⟩ := hv
        refine y_iald E (Nat.lt_of_lt_of_le (show 4 < 5 by decide) (by decide)) (mc_m_cellOf (by decide) (by decide)) hi dX12_put_36 ?_
        refine y_nmi (fun x10 hx10 => ?_)
        replace hv := hv x10 hx10
        refine y_istore (lv' := [(4, .int x10), (0, .ref (w.1 0)), (1, .int a1), (2, .int a2), (3, .int a3)]) E dX12_put_37 (by decide) rfl ?_
        refine y_aload_n E dX12_put_39 1 rfl ?_
        refine gf_X12_5 E (by decide) (by decide) wm_490 dX12_put_40 ?_
        refine y_iload_n E dX12_put_43 2 rfl ?_
        refine y_iload_n E dX12_put_44 3 rfl ?_
        obtain ⟨hi, hv⟩ := hv
        refine y_iast E (Nat.lt_of_lt_of_le (show 4 < 5 by decide) (by decide)) (fun _ => mc_m_cellOf (by decide) (by decide)) hi dX12_put_45 ?_
        refine y_nmH (fun u11 hu11 => ?_)
        replace hv := hv u11 hu11
        refine y_aload_n E dX12_put_46 1 rfl ?_
        refine gf_X12_6 E (by decide) (by decide) wm_573 dX12_put_47 ?_
        refine y_iload_n E dX12_put_50 2 rfl ?_
        refine y_iload_n E dX12_put_51 4 rfl ?_
        obtain ⟨hi, hv⟩ := hv
        refine y_iast E (Nat.lt_of_lt_of_le (show 5 < 6 by decide) (by decide)) (fun _ => mc_m_wayOf (by decide) (by decide)) hi dX12_put_52 ?_
        refine y_nmH (fun u12 hu12 => ?_)
        replace hv := hv u12 hu12
        refine y_iload E dX12_put_53 0 rfl ?_
        exact y_iret E dX12_put_55 hv
      · replace hv := ite_t hv c9
        refine y_bipush (v := (-7)) E dX12_put_28 (by decide) ?_
        exact y_iret E dX12_put_30 hv
  · replace hv := ite_t hv c3
    refine y_bipush (v := (-5)) E dX12_put_8 (by decide) ?_
    exact y_iret E dX12_put_10 hv
theorem dX12_told_0 : decode cX12_told 0 = .ok (.aload_n 0, 1) := by decide +kernel
theorem dX12_told_1 : decode cX12_told 1 = .ok (.iload_n 1, 1) := by decide +kernel
theorem dX12_told_2 : decode cX12_told 2 = .ok (.invokevirtual 178, 3) := by decide +kernel
theorem dX12_told_5 : decode cX12_told 5 = .ok (.ifCond .ne 6, 3) := by decide +kernel
theorem dX12_told_8 : decode cX12_told 8 = .ok (.bipush (-5), 2) := by decide +kernel
theorem dX12_told_10 : decode cX12_told 10 = .ok (.ireturn, 1) := by decide +kernel
theorem dX12_told_11 : decode cX12_told 11 = .ok (.iload_n 2, 1) := by decide +kernel
theorem dX12_told_12 : decode cX12_told 12 = .ok (.tableswitch 60 0 3 #[32, 39, 46, 53], 32) := by decide +kernel
theorem dX12_told_44 : decode cX12_told 44 = .ok (.aload_n 0, 1) := by decide +kernel
theorem dX12_told_45 : decode cX12_told 45 = .ok (.getfield 19, 3) := by decide +kernel
theorem dX12_told_48 : decode cX12_told 48 = .ok (.iload_n 1, 1) := by decide +kernel
theorem dX12_told_49 : decode cX12_told 49 = .ok (.iaload, 1) := by decide +kernel
theorem dX12_told_50 : decode cX12_told 50 = .ok (.ireturn, 1) := by decide +kernel
theorem dX12_told_51 : decode cX12_told 51 = .ok (.aload_n 0, 1) := by decide +kernel
theorem dX12_told_52 : decode cX12_told 52 = .ok (.getfield 22, 3) := by decide +kernel
theorem dX12_told_55 : decode cX12_told 55 = .ok (.iload_n 1, 1) := by decide +kernel
theorem dX12_told_56 : decode cX12_told 56 = .ok (.iaload, 1) := by decide +kernel
theorem dX12_told_57 : decode cX12_told 57 = .ok (.ireturn, 1) := by decide +kernel
theorem dX12_told_58 : decode cX12_told 58 = .ok (.aload_n 0, 1) := by decide +kernel
theorem dX12_told_59 : decode cX12_told 59 = .ok (.getfield 13, 3) := by decide +kernel
theorem dX12_told_62 : decode cX12_told 62 = .ok (.iload_n 1, 1) := by decide +kernel
theorem dX12_told_63 : decode cX12_told 63 = .ok (.iaload, 1) := by decide +kernel
theorem dX12_told_64 : decode cX12_told 64 = .ok (.ireturn, 1) := by decide +kernel
theorem dX12_told_65 : decode cX12_told 65 = .ok (.aload_n 0, 1) := by decide +kernel
theorem dX12_told_66 : decode cX12_told 66 = .ok (.getfield 16, 3) := by decide +kernel
theorem dX12_told_69 : decode cX12_told 69 = .ok (.iload_n 1, 1) := by decide +kernel
theorem dX12_told_70 : decode cX12_told 70 = .ok (.iaload, 1) := by decide +kernel
theorem dX12_told_71 : decode cX12_told 71 = .ok (.ireturn, 1) := by decide +kernel
theorem dX12_told_72 : decode cX12_told 72 = .ok (.bipush (-7), 2) := by decide +kernel
theorem dX12_told_74 : decode cX12_told 74 = .ok (.ireturn, 1) := by decide +kernel
set_option maxRecDepth 100000 in
set_option maxHeartbeats 4000000 in
theorem kX12_told (l : Launch) (w : wT) (hw : yOk w 20) (σ : Hp) (a1 : Int32) (a2 : Int32) (K : Int32 → Hp → Prop) (hv : VX12_told K σ a1 a2) : yMet l w mcf 20 yX12_told cX12_told 3 (some .int) 3 [.ref (w.1 0), .int a1, .int a2] σ (yQi w mcf 20 K) := by
  unfold VX12_told at hv
  refine y_start (lv0 := [(0, .ref (w.1 0)), (1, .int a1), (2, .int a2)]) (by decide +kernel) (own := RX12) rfl hw (Nat.le_of_ble_eq_true rfl) rfl (fun p e s m below meth c A E => ?_)
  refine y_aload_n E dX12_told_0 0 rfl ?_
  refine y_iload_n E dX12_told_1 1 rfl ?_
  refine y_calli E (y_runV E (rest := []) (kX12_isThing l w E.2.2.1 σ a1 _ hv) (y_cwV 1 E.1.2.2.2.2 wm_577 wm_578 wm_579 wm_479 wm_580 (by decide +kernel) (yRm_le (by decide) (by decide))) (Nat.lt_of_lt_of_le (show 0 < 1 by decide) (by decide)) (mc_X12 (by decide) (by decide)) rfl rfl rfl (Nat.le_of_ble_eq_true rfl) dX12_told_2) (fun v1 u2 hk => ?_)
  clear hv
  have hv := hk
  clear hk
  refine y_if_ne (tgt := 11) E dX12_told_5 (by decide) (fun c3 => ?_) (fun c3 => ?_)
  · replace hv := ite_f hv c3
    refine y_iload_n E dX12_told_11 2 rfl ?_
    by_cases c4 : a2 = 0
    · replace hv := ite_t hv c4
      refine y_table1 (tgt := 44) (off := 32) (j := 0) E dX12_told_12 (i32_eq (z := 0) (by decide) c4) (by decide) rfl (by decide) ?_
      refine y_aload_n E dX12_told_44 0 rfl ?_
      refine gf_X12_5 E (by decide) (by decide) wm_490 dX12_told_45 ?_
      refine y_iload_n E dX12_told_48 1 rfl ?_
      obtain ⟨hi, hv⟩ := hv
      refine y_iald E (Nat.lt_of_lt_of_le (show 4 < 5 by decide) (by decide)) (mc_m_cellOf (by decide) (by decide)) hi dX12_told_49 ?_
      exact y_iret E dX12_told_50 hv
    · replace hv := ite_f hv c4
      by_cases c5 : a2 = 1
      · replace hv := ite_t hv c5
        refine y_table1 (tgt := 51) (off := 39) (j := 1) E dX12_told_12 (i32_eq (z := 1) (by decide) c5) (by decide) rfl (by decide) ?_
        refine y_aload_n E dX12_told_51 0 rfl ?_
        refine gf_X12_6 E (by decide) (by decide) wm_573 dX12_told_52 ?_
        refine y_iload_n E dX12_told_55 1 rfl ?_
        obtain ⟨hi, hv⟩ := hv
        refine y_iald E (Nat.lt_of_lt_of_le (show 5 < 6 by decide) (by decide)) (mc_m_wayOf (by decide) (by decide)) hi dX12_told_56 ?_
        exact y_iret E dX12_told_57 hv
      · replace hv := ite_f hv c5
        by_cases c6 : a2 = 2
        · replace hv := ite_t hv c6
          refine y_table1 (tgt := 58) (off := 46) (j := 2) E dX12_told_12 (i32_eq (z := 2) (by decide) c6) (by decide) rfl (by decide) ?_
          refine y_aload_n E dX12_told_58 0 rfl ?_
          refine gf_X12_3 E (by decide) (by decide) wm_571 dX12_told_59 ?_
          refine y_iload_n E dX12_told_62 1 rfl ?_
          obtain ⟨hi, hv⟩ := hv
          refine y_iald E (Nat.lt_of_lt_of_le (show 2 < 3 by decide) (by decide)) (mc_m_kind (by decide) (by decide)) hi dX12_told_63 ?_
          exact y_iret E dX12_told_64 hv
        · replace hv := ite_f hv c6
          by_cases c7 : a2 = 3
          · replace hv := ite_t hv c7
            refine y_table1 (tgt := 65) (off := 53) (j := 3) E dX12_told_12 (i32_eq (z := 3) (by decide) c7) (by decide) rfl (by decide) ?_
            refine y_aload_n E dX12_told_65 0 rfl ?_
            refine gf_X12_4 E (by decide) (by decide) wm_572 dX12_told_66 ?_
            refine y_iload_n E dX12_told_69 1 rfl ?_
            obtain ⟨hi, hv⟩ := hv
            refine y_iald E (Nat.lt_of_lt_of_le (show 3 < 4 by decide) (by decide)) (mc_m_moreOf (by decide) (by decide)) hi dX12_told_70 ?_
            exact y_iret E dX12_told_71 hv
          · replace hv := ite_f hv c7
            refine y_table0 (tgt := 72) E dX12_told_12 (by decide) (fun j hj => ?_) (by decide) ?_
            · match j, hj with
              | 0, _ => exact Or.inr (i32_ne (z := 0 + ((0 : Nat) : Int)) (by decide) c4)
              | 1, _ => exact Or.inr (i32_ne (z := 0 + ((1 : Nat) : Int)) (by decide) c5)
              | 2, _ => exact Or.inr (i32_ne (z := 0 + ((2 : Nat) : Int)) (by decide) c6)
              | 3, _ => exact Or.inr (i32_ne (z := 0 + ((3 : Nat) : Int)) (by decide) c7)
              | j + 4, hj => exact absurd hj (by simp)
            · refine y_bipush (v := (-7)) E dX12_told_72 (by decide) ?_
              exact y_iret E dX12_told_74 hv
  · replace hv := ite_t hv c3
    refine y_bipush (v := (-5)) E dX12_told_8 (by decide) ?_
    exact y_iret E dX12_told_10 hv
theorem dX12_touching_0 : decode cX12_touching 0 = .ok (.aload_n 0, 1) := by decide +kernel
theorem dX12_touching_1 : decode cX12_touching 1 = .ok (.getfield 13, 3) := by decide +kernel
theorem dX12_touching_4 : decode cX12_touching 4 = .ok (.iload_n 1, 1) := by decide +kernel
theorem dX12_touching_5 : decode cX12_touching 5 = .ok (.iaload, 1) := by decide +kernel
theorem dX12_touching_6 : decode cX12_touching 6 = .ok (.istore_n 3, 1) := by decide +kernel
theorem dX12_touching_7 : decode cX12_touching 7 = .ok (.iload_n 3, 1) := by decide +kernel
theorem dX12_touching_8 : decode cX12_touching 8 = .ok (.iconst 1, 1) := by decide +kernel
theorem dX12_touching_9 : decode cX12_touching 9 = .ok (.if_icmp .eq 8, 3) := by decide +kernel
theorem dX12_touching_12 : decode cX12_touching 12 = .ok (.iload_n 3, 1) := by decide +kernel
theorem dX12_touching_13 : decode cX12_touching 13 = .ok (.iconst 3, 1) := by decide +kernel
theorem dX12_touching_14 : decode cX12_touching 14 = .ok (.if_icmp .ne 7, 3) := by decide +kernel
theorem dX12_touching_17 : decode cX12_touching 17 = .ok (.iconst 4, 1) := by decide +kernel
theorem dX12_touching_18 : decode cX12_touching 18 = .ok (.goto 26, 3) := by decide +kernel
theorem dX12_touching_21 : decode cX12_touching 21 = .ok (.iload_n 3, 1) := by decide +kernel
theorem dX12_touching_22 : decode cX12_touching 22 = .ok (.iconst 2, 1) := by decide +kernel
theorem dX12_touching_23 : decode cX12_touching 23 = .ok (.if_icmp .eq 8, 3) := by decide +kernel
theorem dX12_touching_26 : decode cX12_touching 26 = .ok (.iload_n 3, 1) := by decide +kernel
theorem dX12_touching_27 : decode cX12_touching 27 = .ok (.iconst 4, 1) := by decide +kernel
theorem dX12_touching_28 : decode cX12_touching 28 = .ok (.if_icmp .ne 11, 3) := by decide +kernel
theorem dX12_touching_31 : decode cX12_touching 31 = .ok (.iload_n 2, 1) := by decide +kernel
theorem dX12_touching_32 : decode cX12_touching 32 = .ok (.iconst 1, 1) := by decide +kernel
theorem dX12_touching_33 : decode cX12_touching 33 = .ok (.iadd, 1) := by decide +kernel
theorem dX12_touching_34 : decode cX12_touching 34 = .ok (.iconst 4, 1) := by decide +kernel
theorem dX12_touching_35 : decode cX12_touching 35 = .ok (.irem, 1) := by decide +kernel
theorem dX12_touching_36 : decode cX12_touching 36 = .ok (.goto 8, 3) := by decide +kernel
theorem dX12_touching_39 : decode cX12_touching 39 = .ok (.iload_n 2, 1) := by decide +kernel
theorem dX12_touching_40 : decode cX12_touching 40 = .ok (.iconst 2, 1) := by decide +kernel
theorem dX12_touching_41 : decode cX12_touching 41 = .ok (.iadd, 1) := by decide +kernel
theorem dX12_touching_42 : decode cX12_touching 42 = .ok (.iconst 4, 1) := by decide +kernel
theorem dX12_touching_43 : decode cX12_touching 43 = .ok (.irem, 1) := by decide +kernel
theorem dX12_touching_44 : decode cX12_touching 44 = .ok (.ireturn, 1) := by decide +kernel
set_option maxRecDepth 100000 in
set_option maxHeartbeats 4000000 in
theorem kX12_touching (l : Launch) (w : wT) (hw : yOk w 20) (σ : Hp) (a1 : Int32) (a2 : Int32) (K : Int32 → Hp → Prop) (hv : VX12_touching K σ a1 a2) : yMet l w mcf 20 yX12_touching cX12_touching 4 (some .int) 1 [.ref (w.1 0), .int a1, .int a2] σ (yQi w mcf 20 K) := by
  unfold VX12_touching at hv
  refine y_start (lv0 := [(0, .ref (w.1 0)), (1, .int a1), (2, .int a2)]) (by decide +kernel) (own := RX12) rfl hw (Nat.le_of_ble_eq_true rfl) rfl (fun p e s m below meth c A E => ?_)
  have hb31 : ∀ (σ : Hp) (l2 : Int32), VX12_touching_b31 K σ l2 → YY p l e (yRm 1) s m [.ref (w.1 0), .int a1, .int a2].toArray below meth c w mcf 20 A (MQ below (yQi w mcf 20 K A) [.ref (w.1 0), .int a1, .int a2].toArray s 0 0 A) 4 σ 31 [(2, .int l2)] [] := by
    intro σ l2 hv
    unfold VX12_touching_b31 at hv
    refine y_iload_n E dX12_touching_31 0 rfl ?_
    refine y_iconst (v := 1) E dX12_touching_32 (by decide) ?_
    refine y_iadd E dX12_touching_33 ?_
    refine y_iconst (v := 4) E dX12_touching_34 (by decide) ?_
    refine y_irem E dX12_touching_35 (by decide) ?_
    refine y_goto (tgt := 44) E dX12_touching_36 (by decide) ?_
    exact y_iret E dX12_touching_44 hv
  refine y_aload_n E dX12_touching_0 0 rfl ?_
  refine gf_X12_3 E (by decide) (by decide) wm_571 dX12_touching_1 ?_
  refine y_iload_n E dX12_touching_4 1 rfl ?_
  obtain ⟨hi, hv⟩ := hv
  refine y_iald E (Nat.lt_of_lt_of_le (show 2 < 3 by decide) (by decide)) (mc_m_kind (by decide) (by decide)) hi dX12_touching_5 ?_
  refine y_nmi (fun x1 hx1 => ?_)
  replace hv := hv x1 hx1
  refine y_istore_n (lv' := [(3, .int x1), (0, .ref (w.1 0)), (1, .int a1), (2, .int a2)]) E dX12_touching_6 (by decide) rfl ?_
  refine y_iload_n E dX12_touching_7 0 rfl ?_
  refine y_iconst (v := 1) E dX12_touching_8 (by decide) ?_
  refine y_icmp_eq (tgt := 17) E dX12_touching_9 (by decide) (fun c2 => ?_) (fun c2 => ?_)
  · replace hv := ite_t hv c2
    refine y_iconst (v := 4) E dX12_touching_17 (by decide) ?_
    refine y_goto (tgt := 44) E dX12_touching_18 (by decide) ?_
    exact y_iret E dX12_touching_44 hv
  · replace hv := ite_f hv c2
    refine y_iload_n E dX12_touching_12 0 rfl ?_
    refine y_iconst (v := 3) E dX12_touching_13 (by decide) ?_
    refine y_icmp_ne (tgt := 21) E dX12_touching_14 (by decide) (fun c3 => ?_) (fun c3 => ?_)
    · replace hv := ite_f hv c3
      refine y_iload_n E dX12_touching_21 0 rfl ?_
      refine y_iconst (v := 2) E dX12_touching_22 (by decide) ?_
      refine y_icmp_eq (tgt := 31) E dX12_touching_23 (by decide) (fun c4 => ?_) (fun c4 => ?_)
      · replace hv := ite_t hv c4
        refine y_lv (lv' := [(2, .int a2)]) [3] rfl ?_
        exact hb31 σ a2 hv
      · replace hv := ite_f hv c4
        refine y_iload_n E dX12_touching_26 0 rfl ?_
        refine y_iconst (v := 4) E dX12_touching_27 (by decide) ?_
        refine y_icmp_ne (tgt := 39) E dX12_touching_28 (by decide) (fun c5 => ?_) (fun c5 => ?_)
        · replace hv := ite_f hv c5
          refine y_iload_n E dX12_touching_39 3 rfl ?_
          refine y_iconst (v := 2) E dX12_touching_40 (by decide) ?_
          refine y_iadd E dX12_touching_41 ?_
          refine y_iconst (v := 4) E dX12_touching_42 (by decide) ?_
          refine y_irem E dX12_touching_43 (by decide) ?_
          exact y_iret E dX12_touching_44 hv
        · replace hv := ite_t hv c5
          refine y_lv (lv' := [(2, .int a2)]) [3] rfl ?_
          exact hb31 σ a2 hv
    · replace hv := ite_t hv c3
      refine y_iconst (v := 4) E dX12_touching_17 (by decide) ?_
      refine y_goto (tgt := 44) E dX12_touching_18 (by decide) ?_
      exact y_iret E dX12_touching_44 hv
theorem dX12_blown_0 : decode cX12_blown 0 = .ok (.aload_n 0, 1) := by decide +kernel
theorem dX12_blown_1 : decode cX12_blown 1 = .ok (.getfield 13, 3) := by decide +kernel
theorem dX12_blown_4 : decode cX12_blown 4 = .ok (.iload_n 1, 1) := by decide +kernel
theorem dX12_blown_5 : decode cX12_blown 5 = .ok (.iaload, 1) := by decide +kernel
theorem dX12_blown_6 : decode cX12_blown 6 = .ok (.iconst 5, 1) := by decide +kernel
theorem dX12_blown_7 : decode cX12_blown 7 = .ok (.if_icmp .ne 8, 3) := by decide +kernel
theorem dX12_blown_10 : decode cX12_blown 10 = .ok (.iload_n 3, 1) := by decide +kernel
theorem dX12_blown_11 : decode cX12_blown 11 = .ok (.iconst 4, 1) := by decide +kernel
theorem dX12_blown_12 : decode cX12_blown 12 = .ok (.if_icmp .ne 8, 3) := by decide +kernel
theorem dX12_blown_15 : decode cX12_blown 15 = .ok (.iload_n 2, 1) := by decide +kernel
theorem dX12_blown_16 : decode cX12_blown 16 = .ok (.iconst 4, 1) := by decide +kernel
theorem dX12_blown_17 : decode cX12_blown 17 = .ok (.if_icmp .ne 5, 3) := by decide +kernel
theorem dX12_blown_20 : decode cX12_blown 20 = .ok (.iload_n 3, 1) := by decide +kernel
theorem dX12_blown_21 : decode cX12_blown 21 = .ok (.ireturn, 1) := by decide +kernel
theorem dX12_blown_22 : decode cX12_blown 22 = .ok (.aload_n 0, 1) := by decide +kernel
theorem dX12_blown_23 : decode cX12_blown 23 = .ok (.getfield 13, 3) := by decide +kernel
theorem dX12_blown_26 : decode cX12_blown 26 = .ok (.iload_n 1, 1) := by decide +kernel
theorem dX12_blown_27 : decode cX12_blown 27 = .ok (.iaload, 1) := by decide +kernel
theorem dX12_blown_28 : decode cX12_blown 28 = .ok (.iconst 4, 1) := by decide +kernel
theorem dX12_blown_29 : decode cX12_blown 29 = .ok (.if_icmp .ne 11, 3) := by decide +kernel
theorem dX12_blown_32 : decode cX12_blown 32 = .ok (.iload_n 2, 1) := by decide +kernel
theorem dX12_blown_33 : decode cX12_blown 33 = .ok (.iconst 2, 1) := by decide +kernel
theorem dX12_blown_34 : decode cX12_blown 34 = .ok (.iadd, 1) := by decide +kernel
theorem dX12_blown_35 : decode cX12_blown 35 = .ok (.iconst 4, 1) := by decide +kernel
theorem dX12_blown_36 : decode cX12_blown 36 = .ok (.irem, 1) := by decide +kernel
theorem dX12_blown_37 : decode cX12_blown 37 = .ok (.goto 4, 3) := by decide +kernel
theorem dX12_blown_40 : decode cX12_blown 40 = .ok (.iload_n 2, 1) := by decide +kernel
theorem dX12_blown_41 : decode cX12_blown 41 = .ok (.ireturn, 1) := by decide +kernel
set_option maxRecDepth 100000 in
set_option maxHeartbeats 4000000 in
theorem kX12_blown (l : Launch) (w : wT) (hw : yOk w 20) (σ : Hp) (a1 : Int32) (a2 : Int32) (a3 : Int32) (K : Int32 → Hp → Prop) (hv : VX12_blown K σ a1 a2 a3) : yMet l w mcf 20 yX12_blown cX12_blown 4 (some .int) 1 [.ref (w.1 0), .int a1, .int a2, .int a3] σ (yQi w mcf 20 K) := by
  unfold VX12_blown at hv
  refine y_start (lv0 := [(0, .ref (w.1 0)), (1, .int a1), (2, .int a2), (3, .int a3)]) (by decide +kernel) (own := RX12) rfl hw (Nat.le_of_ble_eq_true rfl) rfl (fun p e s m below meth c A E => ?_)
  have hb15 : ∀ (σ : Hp) (l1 : Int32) (l2 : Int32) (l3 : Int32), VX12_blown_b15 K σ l1 l2 l3 → YY p l e (yRm 1) s m [.ref (w.1 0), .int a1, .int a2, .int a3].toArray below meth c w mcf 20 A (MQ below (yQi w mcf 20 K A) [.ref (w.1 0), .int a1, .int a2, .int a3].toArray s 0 0 A) 4 σ 15 [(0, .ref (w.1 0)), (1, .int l1), (2, .int l2), (3, .int l3)] [] := by
    intro σ l1 l2 l3 hv
    unfold VX12_blown_b15 at hv
    refine y_iload_n E dX12_blown_15 2 rfl ?_
    refine y_iconst (v := 4) E dX12_blown_16 (by decide) ?_
    refine y_icmp_ne (tgt := 22) E dX12_blown_17 (by decide) (fun c3 => ?_) (fun c3 => ?_)
    · replace hv := ite_f hv c3
      refine y_aload_n E dX12_blown_22 0 rfl ?_
      refine gf_X12_3 E (by decide) (by decide) wm_571 dX12_blown_23 ?_
      refine y_iload_n E dX12_blown_26 1 rfl ?_
      obtain ⟨hi, hv⟩ := hv
      refine y_iald E (Nat.lt_of_lt_of_le (show 2 < 3 by decide) (by decide)) (mc_m_kind (by decide) (by decide)) hi dX12_blown_27 ?_
      refine y_iconst (v := 4) E dX12_blown_28 (by decide) ?_
      refine y_icmp_ne (tgt := 40) E dX12_blown_29 (by decide) (fun c4 => ?_) (fun c4 => ?_)
      · replace hv := ite_f hv c4
        refine y_iload_n E dX12_blown_40 2 rfl ?_
        exact y_iret E dX12_blown_41 hv
      · replace hv := ite_t hv c4
        refine y_iload_n E dX12_blown_32 2 rfl ?_
        refine y_iconst (v := 2) E dX12_blown_33 (by decide) ?_
        refine y_iadd E dX12_blown_34 ?_
        refine y_iconst (v := 4) E dX12_blown_35 (by decide) ?_
        refine y_irem E dX12_blown_36 (by decide) ?_
        refine y_goto (tgt := 41) E dX12_blown_37 (by decide) ?_
        exact y_iret E dX12_blown_41 hv
    · replace hv := ite_t hv c3
      refine y_iload_n E dX12_blown_20 3 rfl ?_
      exact y_iret E dX12_blown_21 hv
  refine y_aload_n E dX12_blown_0 0 rfl ?_
  refine gf_X12_3 E (by decide) (by decide) wm_571 dX12_blown_1 ?_
  refine y_iload_n E dX12_blown_4 1 rfl ?_
  obtain ⟨hi, hv⟩ := hv
  refine y_iald E (Nat.lt_of_lt_of_le (show 2 < 3 by decide) (by decide)) (mc_m_kind (by decide) (by decide)) hi dX12_blown_5 ?_
  refine y_iconst (v := 5) E dX12_blown_6 (by decide) ?_
  refine y_icmp_ne (tgt := 15) E dX12_blown_7 (by decide) (fun c1 => ?_) (fun c1 => ?_)
  · replace hv := ite_f hv c1
    exact hb15 σ a1 a2 a3 hv
  · replace hv := ite_t hv c1
    refine y_iload_n E dX12_blown_10 3 rfl ?_
    refine y_iconst (v := 4) E dX12_blown_11 (by decide) ?_
    refine y_icmp_ne (tgt := 20) E dX12_blown_12 (by decide) (fun c2 => ?_) (fun c2 => ?_)
    · replace hv := ite_f hv c2
      refine y_iload_n E dX12_blown_20 3 rfl ?_
      exact y_iret E dX12_blown_21 hv
    · replace hv := ite_t hv c2
      exact hb15 σ a1 a2 a3 hv
theorem dX12_beside_0 : decode cX12_beside 0 = .ok (.iload_n 0, 1) := by decide +kernel
theorem dX12_beside_1 : decode cX12_beside 1 = .ok (.bipush 6, 2) := by decide +kernel
theorem dX12_beside_3 : decode cX12_beside 3 = .ok (.idiv, 1) := by decide +kernel
theorem dX12_beside_4 : decode cX12_beside 4 = .ok (.iload_n 1, 1) := by decide +kernel
theorem dX12_beside_5 : decode cX12_beside 5 = .ok (.ifCond .ne 7, 3) := by decide +kernel
theorem dX12_beside_8 : decode cX12_beside 8 = .ok (.iconst (-1), 1) := by decide +kernel
theorem dX12_beside_9 : decode cX12_beside 9 = .ok (.goto 13, 3) := by decide +kernel
theorem dX12_beside_12 : decode cX12_beside 12 = .ok (.iload_n 1, 1) := by decide +kernel
theorem dX12_beside_13 : decode cX12_beside 13 = .ok (.iconst 2, 1) := by decide +kernel
theorem dX12_beside_14 : decode cX12_beside 14 = .ok (.if_icmp .ne 7, 3) := by decide +kernel
theorem dX12_beside_17 : decode cX12_beside 17 = .ok (.iconst 1, 1) := by decide +kernel
theorem dX12_beside_18 : decode cX12_beside 18 = .ok (.goto 4, 3) := by decide +kernel
theorem dX12_beside_21 : decode cX12_beside 21 = .ok (.iconst 0, 1) := by decide +kernel
theorem dX12_beside_22 : decode cX12_beside 22 = .ok (.iadd, 1) := by decide +kernel
theorem dX12_beside_23 : decode cX12_beside 23 = .ok (.istore_n 2, 1) := by decide +kernel
theorem dX12_beside_24 : decode cX12_beside 24 = .ok (.iload_n 0, 1) := by decide +kernel
theorem dX12_beside_25 : decode cX12_beside 25 = .ok (.bipush 6, 2) := by decide +kernel
theorem dX12_beside_27 : decode cX12_beside 27 = .ok (.irem, 1) := by decide +kernel
theorem dX12_beside_28 : decode cX12_beside 28 = .ok (.iload_n 1, 1) := by decide +kernel
theorem dX12_beside_29 : decode cX12_beside 29 = .ok (.iconst 1, 1) := by decide +kernel
theorem dX12_beside_30 : decode cX12_beside 30 = .ok (.if_icmp .ne 7, 3) := by decide +kernel
theorem dX12_beside_33 : decode cX12_beside 33 = .ok (.iconst 1, 1) := by decide +kernel
theorem dX12_beside_34 : decode cX12_beside 34 = .ok (.goto 13, 3) := by decide +kernel
theorem dX12_beside_37 : decode cX12_beside 37 = .ok (.iload_n 1, 1) := by decide +kernel
theorem dX12_beside_38 : decode cX12_beside 38 = .ok (.iconst 3, 1) := by decide +kernel
theorem dX12_beside_39 : decode cX12_beside 39 = .ok (.if_icmp .ne 7, 3) := by decide +kernel
theorem dX12_beside_42 : decode cX12_beside 42 = .ok (.iconst (-1), 1) := by decide +kernel
theorem dX12_beside_43 : decode cX12_beside 43 = .ok (.goto 4, 3) := by decide +kernel
theorem dX12_beside_46 : decode cX12_beside 46 = .ok (.iconst 0, 1) := by decide +kernel
theorem dX12_beside_47 : decode cX12_beside 47 = .ok (.iadd, 1) := by decide +kernel
theorem dX12_beside_48 : decode cX12_beside 48 = .ok (.istore_n 3, 1) := by decide +kernel
theorem dX12_beside_49 : decode cX12_beside 49 = .ok (.iload_n 2, 1) := by decide +kernel
theorem dX12_beside_50 : decode cX12_beside 50 = .ok (.iconst 0, 1) := by decide +kernel
theorem dX12_beside_51 : decode cX12_beside 51 = .ok (.iconst 4, 1) := by decide +kernel
theorem dX12_beside_52 : decode cX12_beside 52 = .ok (.invokestatic 75, 3) := by decide +kernel
theorem dX12_beside_55 : decode cX12_beside 55 = .ok (.ifCond .eq 21, 3) := by decide +kernel
theorem dX12_beside_58 : decode cX12_beside 58 = .ok (.iload_n 3, 1) := by decide +kernel
theorem dX12_beside_59 : decode cX12_beside 59 = .ok (.iconst 0, 1) := by decide +kernel
theorem dX12_beside_60 : decode cX12_beside 60 = .ok (.iconst 5, 1) := by decide +kernel
theorem dX12_beside_61 : decode cX12_beside 61 = .ok (.invokestatic 75, 3) := by decide +kernel
theorem dX12_beside_64 : decode cX12_beside 64 = .ok (.ifCond .eq 12, 3) := by decide +kernel
theorem dX12_beside_67 : decode cX12_beside 67 = .ok (.bipush 6, 2) := by decide +kernel
theorem dX12_beside_69 : decode cX12_beside 69 = .ok (.iload_n 2, 1) := by decide +kernel
theorem dX12_beside_70 : decode cX12_beside 70 = .ok (.imul, 1) := by decide +kernel
theorem dX12_beside_71 : decode cX12_beside 71 = .ok (.iload_n 3, 1) := by decide +kernel
theorem dX12_beside_72 : decode cX12_beside 72 = .ok (.iadd, 1) := by decide +kernel
theorem dX12_beside_73 : decode cX12_beside 73 = .ok (.goto 4, 3) := by decide +kernel
theorem dX12_beside_76 : decode cX12_beside 76 = .ok (.iconst (-1), 1) := by decide +kernel
theorem dX12_beside_77 : decode cX12_beside 77 = .ok (.ireturn, 1) := by decide +kernel
set_option maxRecDepth 100000 in
set_option maxHeartbeats 4000000 in
theorem kX12_beside (l : Launch) (w : wT) (hw : yOk w 20) (σ : Hp) (a1 : Int32) (a2 : Int32) (K : Int32 → Hp → Prop) (hv : VX12_beside K σ a1 a2) : yMet l w mcf 20 yX12_beside cX12_beside 4 (some .int) 2 [.int a1, .int a2] σ (yQi w mcf 20 K) := by
  unfold VX12_beside at hv
  refine y_start (lv0 := [(0, .int a1), (1, .int a2)]) (by decide +kernel) (own := RX12) rfl hw (Nat.le_of_ble_eq_true rfl) rfl (fun p e s m below meth c A E => ?_)
  have hb47 : ∀ (σ : Hp) (l2 : Int32) (s0 : Int32) (s1 : Int32), VX12_beside_b47 K σ l2 s0 s1 → YY p l e (yRm 2) s m [.int a1, .int a2].toArray below meth c w mcf 20 A (MQ below (yQi w mcf 20 K A) [.int a1, .int a2].toArray s 0 0 A) 4 σ 47 [(2, .int l2)] [.int s0, .int s1] := by
    intro σ l2 s0 s1 hv
    unfold VX12_beside_b47 at hv
    refine y_iadd E dX12_beside_47 ?_
    refine y_nmi (fun x6 hx6 => ?_)
    replace hv := hv x6 hx6
    refine y_istore_n (lv' := [(3, .int x6), (2, .int l2)]) E dX12_beside_48 (by decide) rfl ?_
    refine y_iload_n E dX12_beside_49 1 rfl ?_
    refine y_iconst (v := 0) E dX12_beside_50 (by decide) ?_
    refine y_iconst (v := 4) E dX12_beside_51 (by decide) ?_
    refine y_calli E (y_runS E (rest := []) (kX12_in l w E.2.2.1 σ l2 0 4 _ hv) (y_cwS 3 E.1.2.2.2.2 wm_477 wm_478 wm_479 wm_480 (by decide +kernel) (yRm_le (by decide) (by decide))) rfl rfl (Nat.le_of_ble_eq_true rfl) dX12_beside_52) (fun v7 u8 hk => ?_)
    clear hv
    have hv := hk
    clear hk
    refine y_if_eq (tgt := 76) E dX12_beside_55 (by decide) (fun c9 => ?_) (fun c9 => ?_)
    · replace hv := ite_t hv c9
      refine y_iconst (v := (-1)) E dX12_beside_76 (by decide) ?_
      exact y_iret E dX12_beside_77 hv
    · replace hv := ite_f hv c9
      refine y_iload_n E dX12_beside_58 0 rfl ?_
      refine y_iconst (v := 0) E dX12_beside_59 (by decide) ?_
      refine y_iconst (v := 5) E dX12_beside_60 (by decide) ?_
      refine y_calli E (y_runS E (rest := []) (kX12_in l w E.2.2.1 u8 x6 0 5 _ hv) (y_cwS 3 E.1.2.2.2.2 wm_477 wm_478 wm_479 wm_480 (by decide +kernel) (yRm_le (by decide) (by decide))) rfl rfl (Nat.le_of_ble_eq_true rfl) dX12_beside_61) (fun v10 u11 hk => ?_)
      clear hv
      have hv := hk
      clear hk
      refine y_if_eq (tgt := 76) E dX12_beside_64 (by decide) (fun c12 => ?_) (fun c12 => ?_)
      · replace hv := ite_t hv c12
        refine y_iconst (v := (-1)) E dX12_beside_76 (by decide) ?_
        exact y_iret E dX12_beside_77 hv
      · replace hv := ite_f hv c12
        refine y_bipush (v := 6) E dX12_beside_67 (by decide) ?_
        refine y_iload_n E dX12_beside_69 1 rfl ?_
        refine y_imul E dX12_beside_70 ?_
        refine y_iload_n E dX12_beside_71 0 rfl ?_
        refine y_iadd E dX12_beside_72 ?_
        refine y_goto (tgt := 77) E dX12_beside_73 (by decide) ?_
        exact y_iret E dX12_beside_77 hv
  have hb22 : ∀ (σ : Hp) (l0 : Int32) (l1 : Int32) (s0 : Int32) (s1 : Int32), VX12_beside_b22 K σ l0 l1 s0 s1 → YY p l e (yRm 2) s m [.int a1, .int a2].toArray below meth c w mcf 20 A (MQ below (yQi w mcf 20 K A) [.int a1, .int a2].toArray s 0 0 A) 4 σ 22 [(0, .int l0), (1, .int l1)] [.int s0, .int s1] := by
    intro σ l0 l1 s0 s1 hv
    unfold VX12_beside_b22 at hv
    refine y_iadd E dX12_beside_22 ?_
    refine y_nmi (fun x3 hx3 => ?_)
    replace hv := hv x3 hx3
    refine y_istore_n (lv' := [(2, .int x3), (0, .int l0), (1, .int l1)]) E dX12_beside_23 (by decide) rfl ?_
    refine y_iload_n E dX12_beside_24 1 rfl ?_
    refine y_bipush (v := 6) E dX12_beside_25 (by decide) ?_
    refine y_irem E dX12_beside_27 (by decide) ?_
    refine y_iload_n E dX12_beside_28 2 rfl ?_
    refine y_iconst (v := 1) E dX12_beside_29 (by decide) ?_
    refine y_icmp_ne (tgt := 37) E dX12_beside_30 (by decide) (fun c4 => ?_) (fun c4 => ?_)
    · replace hv := ite_f hv c4
      refine y_iload_n E dX12_beside_37 2 rfl ?_
      refine y_iconst (v := 3) E dX12_beside_38 (by decide) ?_
      refine y_icmp_ne (tgt := 46) E dX12_beside_39 (by decide) (fun c5 => ?_) (fun c5 => ?_)
      · replace hv := ite_f hv c5
        refine y_iconst (v := 0) E dX12_beside_46 (by decide) ?_
        refine y_lv (lv' := [(2, .int x3)]) [0] rfl ?_
        exact hb47 σ x3 0 (jrem l0 6) hv
      · replace hv := ite_t hv c5
        refine y_iconst (v := (-1)) E dX12_beside_42 (by decide) ?_
        refine y_goto (tgt := 47) E dX12_beside_43 (by decide) ?_
        refine y_lv (lv' := [(2, .int x3)]) [0] rfl ?_
        exact hb47 σ x3 (-1) (jrem l0 6) hv
    · replace hv := ite_t hv c4
      refine y_iconst (v := 1) E dX12_beside_33 (by decide) ?_
      refine y_goto (tgt := 47) E dX12_beside_34 (by decide) ?_
      refine y_lv (lv' := [(2, .int x3)]) [0] rfl ?_
      exact hb47 σ x3 1 (jrem l0 6) hv
  refine y_iload_n E dX12_beside_0 0 rfl ?_
  refine y_bipush (v := 6) E dX12_beside_1 (by decide) ?_
  refine y_idiv E dX12_beside_3 (by decide) ?_
  refine y_iload_n E dX12_beside_4 1 rfl ?_
  refine y_if_ne (tgt := 12) E dX12_beside_5 (by decide) (fun c1 => ?_) (fun c1 => ?_)
  · replace hv := ite_f hv c1
    refine y_iload_n E dX12_beside_12 1 rfl ?_
    refine y_iconst (v := 2) E dX12_beside_13 (by decide) ?_
    refine y_icmp_ne (tgt := 21) E dX12_beside_14 (by decide) (fun c2 => ?_) (fun c2 => ?_)
    · replace hv := ite_f hv c2
      refine y_iconst (v := 0) E dX12_beside_21 (by decide) ?_
      exact hb22 σ a1 a2 0 (a1 / 6) hv
    · replace hv := ite_t hv c2
      refine y_iconst (v := 1) E dX12_beside_17 (by decide) ?_
      refine y_goto (tgt := 22) E dX12_beside_18 (by decide) ?_
      exact hb22 σ a1 a2 1 (a1 / 6) hv
  · replace hv := ite_t hv c1
    refine y_iconst (v := (-1)) E dX12_beside_8 (by decide) ?_
    refine y_goto (tgt := 22) E dX12_beside_9 (by decide) ?_
    exact hb22 σ a1 a2 (-1) (a1 / 6) hv
theorem dX12_steps_0 : decode cX12_steps 0 = .ok (.aload_n 0, 1) := by decide +kernel
theorem dX12_steps_1 : decode cX12_steps 1 = .ok (.iconst 1, 1) := by decide +kernel
theorem dX12_steps_2 : decode cX12_steps 2 = .ok (.aload_n 0, 1) := by decide +kernel
theorem dX12_steps_3 : decode cX12_steps 3 = .ok (.getfield 181, 3) := by decide +kernel
theorem dX12_steps_6 : decode cX12_steps 6 = .ok (.invokevirtual 83, 3) := by decide +kernel
theorem dX12_steps_9 : decode cX12_steps 9 = .ok (.ifCond .eq 9, 3) := by decide +kernel
theorem dX12_steps_12 : decode cX12_steps 12 = .ok (.aload_n 0, 1) := by decide +kernel
theorem dX12_steps_13 : decode cX12_steps 13 = .ok (.iconst 4, 1) := by decide +kernel
theorem dX12_steps_14 : decode cX12_steps 14 = .ok (.putfield 184, 3) := by decide +kernel
theorem dX12_steps_17 : decode cX12_steps 17 = .ok (.return_, 1) := by decide +kernel
theorem dX12_steps_18 : decode cX12_steps 18 = .ok (.aload_n 0, 1) := by decide +kernel
theorem dX12_steps_19 : decode cX12_steps 19 = .ok (.iconst 2, 1) := by decide +kernel
theorem dX12_steps_20 : decode cX12_steps 20 = .ok (.aload_n 0, 1) := by decide +kernel
theorem dX12_steps_21 : decode cX12_steps 21 = .ok (.getfield 181, 3) := by decide +kernel
theorem dX12_steps_24 : decode cX12_steps 24 = .ok (.invokevirtual 83, 3) := by decide +kernel
theorem dX12_steps_27 : decode cX12_steps 27 = .ok (.ifCond .eq 33, 3) := by decide +kernel
theorem dX12_steps_30 : decode cX12_steps 30 = .ok (.aload_n 0, 1) := by decide +kernel
theorem dX12_steps_31 : decode cX12_steps 31 = .ok (.aload_n 0, 1) := by decide +kernel
theorem dX12_steps_32 : decode cX12_steps 32 = .ok (.iload_n 1, 1) := by decide +kernel
theorem dX12_steps_33 : decode cX12_steps 33 = .ok (.aload_n 0, 1) := by decide +kernel
theorem dX12_steps_34 : decode cX12_steps 34 = .ok (.iconst 0, 1) := by decide +kernel
theorem dX12_steps_35 : decode cX12_steps 35 = .ok (.aload_n 0, 1) := by decide +kernel
theorem dX12_steps_36 : decode cX12_steps 36 = .ok (.getfield 181, 3) := by decide +kernel
theorem dX12_steps_39 : decode cX12_steps 39 = .ok (.iload_n 2, 1) := by decide +kernel
theorem dX12_steps_40 : decode cX12_steps 40 = .ok (.iload_n 1, 1) := by decide +kernel
theorem dX12_steps_41 : decode cX12_steps 41 = .ok (.aload_n 0, 1) := by decide +kernel
theorem dX12_steps_42 : decode cX12_steps 42 = .ok (.getfield 16, 3) := by decide +kernel
theorem dX12_steps_45 : decode cX12_steps 45 = .ok (.iload_n 1, 1) := by decide +kernel
theorem dX12_steps_46 : decode cX12_steps 46 = .ok (.iaload, 1) := by decide +kernel
theorem dX12_steps_47 : decode cX12_steps 47 = .ok (.invokevirtual 171, 3) := by decide +kernel
theorem dX12_steps_50 : decode cX12_steps 50 = .ok (.aload_n 0, 1) := by decide +kernel
theorem dX12_steps_51 : decode cX12_steps 51 = .ok (.getfield 184, 3) := by decide +kernel
theorem dX12_steps_54 : decode cX12_steps 54 = .ok (.invokevirtual 187, 3) := by decide +kernel
theorem dX12_steps_57 : decode cX12_steps 57 = .ok (.putfield 184, 3) := by decide +kernel
theorem dX12_steps_60 : decode cX12_steps 60 = .ok (.aload_n 0, 1) := by decide +kernel
theorem dX12_steps_61 : decode cX12_steps 61 = .ok (.getfield 184, 3) := by decide +kernel
theorem dX12_steps_64 : decode cX12_steps 64 = .ok (.iconst 4, 1) := by decide +kernel
theorem dX12_steps_65 : decode cX12_steps 65 = .ok (.if_icmp .eq 32, 3) := by decide +kernel
theorem dX12_steps_68 : decode cX12_steps 68 = .ok (.aload_n 0, 1) := by decide +kernel
theorem dX12_steps_69 : decode cX12_steps 69 = .ok (.getfield 13, 3) := by decide +kernel
theorem dX12_steps_72 : decode cX12_steps 72 = .ok (.iload_n 1, 1) := by decide +kernel
theorem dX12_steps_73 : decode cX12_steps 73 = .ok (.iaload, 1) := by decide +kernel
theorem dX12_steps_74 : decode cX12_steps 74 = .ok (.iconst 3, 1) := by decide +kernel
theorem dX12_steps_75 : decode cX12_steps 75 = .ok (.if_icmp .ne 18, 3) := by decide +kernel
theorem dX12_steps_78 : decode cX12_steps 78 = .ok (.iload_n 2, 1) := by decide +kernel
theorem dX12_steps_79 : decode cX12_steps 79 = .ok (.aload_n 0, 1) := by decide +kernel
theorem dX12_steps_80 : decode cX12_steps 80 = .ok (.getfield 16, 3) := by decide +kernel
theorem dX12_steps_83 : decode cX12_steps 83 = .ok (.iload_n 1, 1) := by decide +kernel
theorem dX12_steps_84 : decode cX12_steps 84 = .ok (.iaload, 1) := by decide +kernel
theorem dX12_steps_85 : decode cX12_steps 85 = .ok (.iconst 3, 1) := by decide +kernel
theorem dX12_steps_86 : decode cX12_steps 86 = .ok (.irem, 1) := by decide +kernel
theorem dX12_steps_87 : decode cX12_steps 87 = .ok (.iconst 1, 1) := by decide +kernel
theorem dX12_steps_88 : decode cX12_steps 88 = .ok (.iadd, 1) := by decide +kernel
theorem dX12_steps_89 : decode cX12_steps 89 = .ok (.irem, 1) := by decide +kernel
theorem dX12_steps_90 : decode cX12_steps 90 = .ok (.ifCond .ne 7, 3) := by decide +kernel
theorem dX12_steps_93 : decode cX12_steps 93 = .ok (.iconst 1, 1) := by decide +kernel
theorem dX12_steps_94 : decode cX12_steps 94 = .ok (.goto 4, 3) := by decide +kernel
theorem dX12_steps_97 : decode cX12_steps 97 = .ok (.iconst 0, 1) := by decide +kernel
theorem dX12_steps_98 : decode cX12_steps 98 = .ok (.istore_n 3, 1) := by decide +kernel
theorem dX12_steps_99 : decode cX12_steps 99 = .ok (.iload_n 3, 1) := by decide +kernel
theorem dX12_steps_100 : decode cX12_steps 100 = .ok (.ifCond .eq 54, 3) := by decide +kernel
theorem dX12_steps_103 : decode cX12_steps 103 = .ok (.aload_n 0, 1) := by decide +kernel
theorem dX12_steps_104 : decode cX12_steps 104 = .ok (.getfield 181, 3) := by decide +kernel
theorem dX12_steps_107 : decode cX12_steps 107 = .ok (.aload_n 0, 1) := by decide +kernel
theorem dX12_steps_108 : decode cX12_steps 108 = .ok (.getfield 184, 3) := by decide +kernel
theorem dX12_steps_111 : decode cX12_steps 111 = .ok (.invokestatic 190, 3) := by decide +kernel
theorem dX12_steps_114 : decode cX12_steps 114 = .ok (.istore 4, 2) := by decide +kernel
theorem dX12_steps_116 : decode cX12_steps 116 = .ok (.iload 4, 2) := by decide +kernel
theorem dX12_steps_118 : decode cX12_steps 118 = .ok (.iconst (-1), 1) := by decide +kernel
theorem dX12_steps_119 : decode cX12_steps 119 = .ok (.if_icmp .eq 13, 3) := by decide +kernel
theorem dX12_steps_122 : decode cX12_steps 122 = .ok (.aload_n 0, 1) := by decide +kernel
theorem dX12_steps_123 : decode cX12_steps 123 = .ok (.iconst 0, 1) := by decide +kernel
theorem dX12_steps_124 : decode cX12_steps 124 = .ok (.iload 4, 2) := by decide +kernel
theorem dX12_steps_126 : decode cX12_steps 126 = .ok (.invokevirtual 83, 3) := by decide +kernel
theorem dX12_steps_129 : decode cX12_steps 129 = .ok (.ifCond .eq 19, 3) := by decide +kernel
theorem dX12_steps_132 : decode cX12_steps 132 = .ok (.aload_n 0, 1) := by decide +kernel
theorem dX12_steps_133 : decode cX12_steps 133 = .ok (.aload_n 0, 1) := by decide +kernel
theorem dX12_steps_134 : decode cX12_steps 134 = .ok (.iload_n 1, 1) := by decide +kernel
theorem dX12_steps_135 : decode cX12_steps 135 = .ok (.aload_n 0, 1) := by decide +kernel
theorem dX12_steps_136 : decode cX12_steps 136 = .ok (.getfield 184, 3) := by decide +kernel
theorem dX12_steps_139 : decode cX12_steps 139 = .ok (.invokevirtual 193, 3) := by decide +kernel
theorem dX12_steps_142 : decode cX12_steps 142 = .ok (.putfield 184, 3) := by decide +kernel
theorem dX12_steps_145 : decode cX12_steps 145 = .ok (.goto 9, 3) := by decide +kernel
theorem dX12_steps_148 : decode cX12_steps 148 = .ok (.aload_n 0, 1) := by decide +kernel
theorem dX12_steps_149 : decode cX12_steps 149 = .ok (.iload 4, 2) := by decide +kernel
theorem dX12_steps_151 : decode cX12_steps 151 = .ok (.putfield 181, 3) := by decide +kernel
theorem dX12_steps_154 : decode cX12_steps 154 = .ok (.return_, 1) := by decide +kernel
set_option maxRecDepth 100000 in
set_option maxHeartbeats 4000000 in
theorem kX12_steps (l : Launch) (w : wT) (hw : yOk w 20) (σ : Hp) (a1 : Int32) (a2 : Int32) (K : Hp → Prop) (hv : VX12_steps K σ a1 a2) : yMet l w mcf 20 yX12_steps cX12_steps 5 none 4 [.ref (w.1 0), .int a1, .int a2] σ (yQv w mcf 20 K) := by
  unfold VX12_steps at hv
  refine y_start (lv0 := [(0, .ref (w.1 0)), (1, .int a1), (2, .int a2)]) (by decide +kernel) (own := RX12) rfl hw (Nat.le_of_ble_eq_true rfl) rfl (fun p e s m below meth c A E => ?_)
  have hb132 : ∀ (σ : Hp) (l1 : Int32), VX12_steps_b132 K σ l1 → YY p l e (yRm 4) s m [.ref (w.1 0), .int a1, .int a2].toArray below meth c w mcf 20 A (MQ below (yQv w mcf 20 K A) [.ref (w.1 0), .int a1, .int a2].toArray s 0 0 A) 5 σ 132 [(0, .ref (w.1 0)), (1, .int l1)] [] := by
    intro σ l1 hv
    unfold VX12_steps_b132 at hv
    refine y_aload_n E dX12_steps_132 0 rfl ?_
    refine y_aload_n E dX12_steps_133 0 rfl ?_
    refine y_iload_n E dX12_steps_134 1 rfl ?_
    refine y_aload_n E dX12_steps_135 0 rfl ?_
    refine gf_X12_33 E (by decide) (by decide) wm_582 dX12_steps_136 ?_
    refine y_calli E (y_runV E (rest := [.ref (w.1 0)]) (kX12_touching l w E.2.2.1 σ l1 (σ 0 33) _ hv) (y_cwV 2 E.1.2.2.2.2 wm_590 wm_591 wm_592 wm_479 wm_593 (by decide +kernel) (yRm_le (by decide) (by decide))) (Nat.lt_of_lt_of_le (show 0 < 1 by decide) (by decide)) (mc_X12 (by decide) (by decide)) rfl rfl rfl (Nat.le_of_ble_eq_true rfl) dX12_steps_139) (fun v24 u25 hk => ?_)
    clear hv
    have hv := hk
    clear hk
    refine pf_X12_33 E (by decide) (by decide) wm_582 dX12_steps_142 ?_
    refine y_nmH (fun u26 hu26 => ?_)
    replace hv := hv u26 hu26
    refine y_goto (tgt := 154) E dX12_steps_145 (by decide) ?_
    exact y_vret E dX12_steps_154 hv
  have hb98 : ∀ (σ : Hp) (l1 : Int32) (s0 : Int32), VX12_steps_b98 K σ l1 s0 → YY p l e (yRm 4) s m [.ref (w.1 0), .int a1, .int a2].toArray below meth c w mcf 20 A (MQ below (yQv w mcf 20 K A) [.ref (w.1 0), .int a1, .int a2].toArray s 0 0 A) 5 σ 98 [(0, .ref (w.1 0)), (1, .int l1)] [.int s0] := by
    intro σ l1 s0 hv
    unfold VX12_steps_b98 at hv
    refine y_istore_n (lv' := [(3, .int s0), (0, .ref (w.1 0)), (1, .int l1)]) E dX12_steps_98 (by decide) rfl ?_
    refine y_iload_n E dX12_steps_99 0 rfl ?_
    refine y_if_eq (tgt := 154) E dX12_steps_100 (by decide) (fun c16 => ?_) (fun c16 => ?_)
    · replace hv := ite_t hv c16
      exact y_vret E dX12_steps_154 hv
    · replace hv := ite_f hv c16
      refine y_aload_n E dX12_steps_103 1 rfl ?_
      refine gf_X12_32 E (by decide) (by decide) wm_581 dX12_steps_104 ?_
      refine y_aload_n E dX12_steps_107 1 rfl ?_
      refine gf_X12_33 E (by decide) (by decide) wm_582 dX12_steps_108 ?_
      refine y_calli E (y_runS E (rest := []) (kX12_beside l w E.2.2.1 σ (σ 0 32) (σ 0 33) _ hv) (y_cwS 2 E.1.2.2.2.2 wm_587 wm_588 wm_479 wm_589 (by decide +kernel) (yRm_le (by decide) (by decide))) rfl rfl (Nat.le_of_ble_eq_true rfl) dX12_steps_111) (fun v17 u18 hk => ?_)
      clear hv
      have hv := hk
      clear hk
      refine y_istore (lv' := [(4, .int v17), (3, .int s0), (0, .ref (w.1 0)), (1, .int l1)]) E dX12_steps_114 (by decide) rfl ?_
      refine y_iload E dX12_steps_116 0 rfl ?_
      refine y_iconst (v := (-1)) E dX12_steps_118 (by decide) ?_
      refine y_icmp_eq (tgt := 132) E dX12_steps_119 (by decide) (fun c19 => ?_) (fun c19 => ?_)
      · replace hv := ite_t hv c19
        refine y_lv (lv' := [(0, .ref (w.1 0)), (1, .int l1)]) [2, 3] rfl ?_
        exact hb132 u18 l1 hv
      · replace hv := ite_f hv c19
        refine y_aload_n E dX12_steps_122 2 rfl ?_
        refine y_iconst (v := 0) E dX12_steps_123 (by decide) ?_
        refine y_iload E dX12_steps_124 0 rfl ?_
        refine y_calli E (y_runV E (rest := []) (kX12_has l w E.2.2.1 u18 0 v17 _ hv) (y_cwV 2 E.1.2.2.2.2 wm_483 wm_484 wm_485 wm_479 wm_486 (by decide +kernel) (yRm_le (by decide) (by decide))) (Nat.lt_of_lt_of_le (show 0 < 1 by decide) (by decide)) (mc_X12 (by decide) (by decide)) rfl rfl rfl (Nat.le_of_ble_eq_true rfl) dX12_steps_126) (fun v20 u21 hk => ?_)
        clear hv
        have hv := hk
        clear hk
        refine y_if_eq (tgt := 148) E dX12_steps_129 (by decide) (fun c22 => ?_) (fun c22 => ?_)
        · replace hv := ite_t hv c22
          refine y_aload_n E dX12_steps_148 2 rfl ?_
          refine y_iload E dX12_steps_149 0 rfl ?_
          refine pf_X12_32 E (by decide) (by decide) wm_581 dX12_steps_151 ?_
          refine y_nmH (fun u23 hu23 => ?_)
          replace hv := hv u23 hu23
          exact y_vret E dX12_steps_154 hv
        · replace hv := ite_f hv c22
          refine y_lv (lv' := [(0, .ref (w.1 0)), (1, .int l1)]) [2, 3] rfl ?_
          exact hb132 u21 l1 hv
  have hb60 : ∀ (σ : Hp) (l1 : Int32) (l2 : Int32), VX12_steps_b60 K σ l1 l2 → YY p l e (yRm 4) s m [.ref (w.1 0), .int a1, .int a2].toArray below meth c w mcf 20 A (MQ below (yQv w mcf 20 K A) [.ref (w.1 0), .int a1, .int a2].toArray s 0 0 A) 5 σ 60 [(0, .ref (w.1 0)), (1, .int l1), (2, .int l2)] [] := by
    intro σ l1 l2 hv
    unfold VX12_steps_b60 at hv
    refine y_aload_n E dX12_steps_60 0 rfl ?_
    refine gf_X12_33 E (by decide) (by decide) wm_582 dX12_steps_61 ?_
    refine y_iconst (v := 4) E dX12_steps_64 (by decide) ?_
    refine y_icmp_eq (tgt := 97) E dX12_steps_65 (by decide) (fun c13 => ?_) (fun c13 => ?_)
    · replace hv := ite_t hv c13
      refine y_iconst (v := 0) E dX12_steps_97 (by decide) ?_
      refine y_lv (lv' := [(0, .ref (w.1 0)), (1, .int l1)]) [0, 1] rfl ?_
      exact hb98 σ l1 0 hv
    · replace hv := ite_f hv c13
      refine y_aload_n E dX12_steps_68 0 rfl ?_
      refine gf_X12_3 E (by decide) (by decide) wm_571 dX12_steps_69 ?_
      refine y_iload_n E dX12_steps_72 1 rfl ?_
      obtain ⟨hi, hv⟩ := hv
      refine y_iald E (Nat.lt_of_lt_of_le (show 2 < 3 by decide) (by decide)) (mc_m_kind (by decide) (by decide)) hi dX12_steps_73 ?_
      refine y_iconst (v := 3) E dX12_steps_74 (by decide) ?_
      refine y_icmp_ne (tgt := 93) E dX12_steps_75 (by decide) (fun c14 => ?_) (fun c14 => ?_)
      · replace hv := ite_f hv c14
        refine y_iconst (v := 1) E dX12_steps_93 (by decide) ?_
        refine y_goto (tgt := 98) E dX12_steps_94 (by decide) ?_
        refine y_lv (lv' := [(0, .ref (w.1 0)), (1, .int l1)]) [0, 1] rfl ?_
        exact hb98 σ l1 1 hv
      · replace hv := ite_t hv c14
        refine y_iload_n E dX12_steps_78 2 rfl ?_
        refine y_aload_n E dX12_steps_79 0 rfl ?_
        refine gf_X12_4 E (by decide) (by decide) wm_572 dX12_steps_80 ?_
        refine y_iload_n E dX12_steps_83 1 rfl ?_
        obtain ⟨hi, hv⟩ := hv
        refine y_iald E (Nat.lt_of_lt_of_le (show 3 < 4 by decide) (by decide)) (mc_m_moreOf (by decide) (by decide)) hi dX12_steps_84 ?_
        refine y_iconst (v := 3) E dX12_steps_85 (by decide) ?_
        refine y_irem E dX12_steps_86 (by decide) ?_
        refine y_iconst (v := 1) E dX12_steps_87 (by decide) ?_
        refine y_iadd E dX12_steps_88 ?_
        obtain ⟨hz, hv⟩ := hv
        refine y_irem E dX12_steps_89 hz ?_
        refine y_if_ne (tgt := 97) E dX12_steps_90 (by decide) (fun c15 => ?_) (fun c15 => ?_)
        · replace hv := ite_f hv c15
          refine y_iconst (v := 0) E dX12_steps_97 (by decide) ?_
          refine y_lv (lv' := [(0, .ref (w.1 0)), (1, .int l1)]) [0, 1] rfl ?_
          exact hb98 σ l1 0 hv
        · replace hv := ite_t hv c15
          refine y_iconst (v := 1) E dX12_steps_93 (by decide) ?_
          refine y_goto (tgt := 98) E dX12_steps_94 (by decide) ?_
          refine y_lv (lv' := [(0, .ref (w.1 0)), (1, .int l1)]) [0, 1] rfl ?_
          exact hb98 σ l1 1 hv
  refine y_aload_n E dX12_steps_0 0 rfl ?_
  refine y_iconst (v := 1) E dX12_steps_1 (by decide) ?_
  refine y_aload_n E dX12_steps_2 0 rfl ?_
  refine gf_X12_32 E (by decide) (by decide) wm_581 dX12_steps_3 ?_
  refine y_calli E (y_runV E (rest := []) (kX12_has l w E.2.2.1 σ 1 (σ 0 32) _ hv) (y_cwV 2 E.1.2.2.2.2 wm_483 wm_484 wm_485 wm_479 wm_486 (by decide +kernel) (yRm_le (by decide) (by decide))) (Nat.lt_of_lt_of_le (show 0 < 1 by decide) (by decide)) (mc_X12 (by decide) (by decide)) rfl rfl rfl (Nat.le_of_ble_eq_true rfl) dX12_steps_6) (fun v1 u2 hk => ?_)
  clear hv
  have hv := hk
  clear hk
  refine y_if_eq (tgt := 18) E dX12_steps_9 (by decide) (fun c3 => ?_) (fun c3 => ?_)
  · replace hv := ite_t hv c3
    refine y_aload_n E dX12_steps_18 0 rfl ?_
    refine y_iconst (v := 2) E dX12_steps_19 (by decide) ?_
    refine y_aload_n E dX12_steps_20 0 rfl ?_
    refine gf_X12_32 E (by decide) (by decide) wm_581 dX12_steps_21 ?_
    refine y_calli E (y_runV E (rest := []) (kX12_has l w E.2.2.1 u2 2 (u2 0 32) _ hv) (y_cwV 2 E.1.2.2.2.2 wm_483 wm_484 wm_485 wm_479 wm_486 (by decide +kernel) (yRm_le (by decide) (by decide))) (Nat.lt_of_lt_of_le (show 0 < 1 by decide) (by decide)) (mc_X12 (by decide) (by decide)) rfl rfl rfl (Nat.le_of_ble_eq_true rfl) dX12_steps_24) (fun v4 u5 hk => ?_)
    clear hv
    have hv := hk
    clear hk
    refine y_if_eq (tgt := 60) E dX12_steps_27 (by decide) (fun c6 => ?_) (fun c6 => ?_)
    · replace hv := ite_t hv c6
      exact hb60 u5 a1 a2 hv
    · replace hv := ite_f hv c6
      refine y_aload_n E dX12_steps_30 0 rfl ?_
      refine y_aload_n E dX12_steps_31 0 rfl ?_
      refine y_iload_n E dX12_steps_32 1 rfl ?_
      refine y_aload_n E dX12_steps_33 0 rfl ?_
      refine y_iconst (v := 0) E dX12_steps_34 (by decide) ?_
      refine y_aload_n E dX12_steps_35 0 rfl ?_
      refine gf_X12_32 E (by decide) (by decide) wm_581 dX12_steps_36 ?_
      refine y_iload_n E dX12_steps_39 2 rfl ?_
      refine y_iload_n E dX12_steps_40 1 rfl ?_
      refine y_aload_n E dX12_steps_41 0 rfl ?_
      refine gf_X12_4 E (by decide) (by decide) wm_572 dX12_steps_42 ?_
      refine y_iload_n E dX12_steps_45 1 rfl ?_
      obtain ⟨hi, hv⟩ := hv
      refine y_iald E (Nat.lt_of_lt_of_le (show 3 < 4 by decide) (by decide)) (mc_m_moreOf (by decide) (by decide)) hi dX12_steps_46 ?_
      refine y_calli E (y_runV E (rest := [.int a1, .ref (w.1 0), .ref (w.1 0)]) (kX12_asksOf l w E.2.2.1 u5 0 (u5 0 32) a2 a1 (u5 3 a1.toNatClampNeg) _ hv) (y_cwV 5 E.1.2.2.2.2 wm_566 wm_567 wm_568 wm_479 wm_569 (by decide +kernel) (yRm_le (by decide) (by decide))) (Nat.lt_of_lt_of_le (show 0 < 1 by decide) (by decide)) (mc_X12 (by decide) (by decide)) rfl rfl rfl (Nat.le_of_ble_eq_true rfl) dX12_steps_47) (fun v7 u8 hk => ?_)
      clear hv
      have hv := hk
      clear hk
      refine y_aload_n E dX12_steps_50 0 rfl ?_
      refine gf_X12_33 E (by decide) (by decide) wm_582 dX12_steps_51 ?_
      refine y_calli E (y_runV E (rest := [.ref (w.1 0)]) (kX12_blown l w E.2.2.1 u8 a1 v7 (u8 0 33) _ hv) (y_cwV 3 E.1.2.2.2.2 wm_583 wm_584 wm_585 wm_479 wm_586 (by decide +kernel) (yRm_le (by decide) (by decide))) (Nat.lt_of_lt_of_le (show 0 < 1 by decide) (by decide)) (mc_X12 (by decide) (by decide)) rfl rfl rfl (Nat.le_of_ble_eq_true rfl) dX12_steps_54) (fun v9 u10 hk => ?_)
      clear hv
      have hv := hk
      clear hk
      refine pf_X12_33 E (by decide) (by decide) wm_582 dX12_steps_57 ?_
      refine y_nmH (fun u11 hu11 => ?_)
      replace hv := hv u11 hu11
      exact hb60 u11 a1 a2 hv
  · replace hv := ite_f hv c3
    refine y_aload_n E dX12_steps_12 0 rfl ?_
    refine y_iconst (v := 4) E dX12_steps_13 (by decide) ?_
    refine pf_X12_33 E (by decide) (by decide) wm_582 dX12_steps_14 ?_
    refine y_nmH (fun u12 hu12 => ?_)
    replace hv := hv u12 hu12
    exact y_vret E dX12_steps_17 hv
theorem dX12_begins_0 : decode cX12_begins 0 = .ok (.aload_n 0, 1) := by decide +kernel
theorem dX12_begins_1 : decode cX12_begins 1 = .ok (.aload_n 0, 1) := by decide +kernel
theorem dX12_begins_2 : decode cX12_begins 2 = .ok (.getfield 19, 3) := by decide +kernel
theorem dX12_begins_5 : decode cX12_begins 5 = .ok (.iload_n 1, 1) := by decide +kernel
theorem dX12_begins_6 : decode cX12_begins 6 = .ok (.iaload, 1) := by decide +kernel
theorem dX12_begins_7 : decode cX12_begins 7 = .ok (.putfield 181, 3) := by decide +kernel
theorem dX12_begins_10 : decode cX12_begins 10 = .ok (.aload_n 0, 1) := by decide +kernel
theorem dX12_begins_11 : decode cX12_begins 11 = .ok (.aload_n 0, 1) := by decide +kernel
theorem dX12_begins_12 : decode cX12_begins 12 = .ok (.getfield 22, 3) := by decide +kernel
theorem dX12_begins_15 : decode cX12_begins 15 = .ok (.iload_n 1, 1) := by decide +kernel
theorem dX12_begins_16 : decode cX12_begins 16 = .ok (.iaload, 1) := by decide +kernel
theorem dX12_begins_17 : decode cX12_begins 17 = .ok (.putfield 184, 3) := by decide +kernel
theorem dX12_begins_20 : decode cX12_begins 20 = .ok (.return_, 1) := by decide +kernel
set_option maxRecDepth 100000 in
set_option maxHeartbeats 4000000 in
theorem kX12_begins (l : Launch) (w : wT) (hw : yOk w 20) (σ : Hp) (a1 : Int32) (K : Hp → Prop) (hv : VX12_begins K σ a1) : yMet l w mcf 20 yX12_begins cX12_begins 2 none 1 [.ref (w.1 0), .int a1] σ (yQv w mcf 20 K) := by
  unfold VX12_begins at hv
  refine y_start (lv0 := [(0, .ref (w.1 0)), (1, .int a1)]) (by decide +kernel) (own := RX12) rfl hw (Nat.le_of_ble_eq_true rfl) rfl (fun p e s m below meth c A E => ?_)
  refine y_aload_n E dX12_begins_0 0 rfl ?_
  refine y_aload_n E dX12_begins_1 0 rfl ?_
  refine gf_X12_5 E (by decide) (by decide) wm_490 dX12_begins_2 ?_
  refine y_iload_n E dX12_begins_5 1 rfl ?_
  obtain ⟨hi, hv⟩ := hv
  refine y_iald E (Nat.lt_of_lt_of_le (show 4 < 5 by decide) (by decide)) (mc_m_cellOf (by decide) (by decide)) hi dX12_begins_6 ?_
  refine pf_X12_32 E (by decide) (by decide) wm_581 dX12_begins_7 ?_
  refine y_nmH (fun u1 hu1 => ?_)
  replace hv := hv u1 hu1
  refine y_aload_n E dX12_begins_10 0 rfl ?_
  refine y_aload_n E dX12_begins_11 0 rfl ?_
  refine gf_X12_6 E (by decide) (by decide) wm_573 dX12_begins_12 ?_
  refine y_iload_n E dX12_begins_15 1 rfl ?_
  obtain ⟨hi, hv⟩ := hv
  refine y_iald E (Nat.lt_of_lt_of_le (show 5 < 6 by decide) (by decide)) (mc_m_wayOf (by decide) (by decide)) hi dX12_begins_16 ?_
  refine pf_X12_33 E (by decide) (by decide) wm_582 dX12_begins_17 ?_
  refine y_nmH (fun u2 hu2 => ?_)
  replace hv := hv u2 hu2
  exact y_vret E dX12_begins_20 hv
theorem dX12_goesBehind_0 : decode cX12_goesBehind 0 = .ok (.iconst 0, 1) := by decide +kernel
theorem dX12_goesBehind_1 : decode cX12_goesBehind 1 = .ok (.istore_n 3, 1) := by decide +kernel
theorem dX12_goesBehind_2 : decode cX12_goesBehind 2 = .ok (.iload_n 3, 1) := by decide +kernel
theorem dX12_goesBehind_3 : decode cX12_goesBehind 3 = .ok (.iload_n 2, 1) := by decide +kernel
theorem dX12_goesBehind_4 : decode cX12_goesBehind 4 = .ok (.if_icmp .ge 20, 3) := by decide +kernel
theorem dX12_goesBehind_7 : decode cX12_goesBehind 7 = .ok (.aload_n 0, 1) := by decide +kernel
theorem dX12_goesBehind_8 : decode cX12_goesBehind 8 = .ok (.iload_n 1, 1) := by decide +kernel
theorem dX12_goesBehind_9 : decode cX12_goesBehind 9 = .ok (.aload_n 0, 1) := by decide +kernel
theorem dX12_goesBehind_10 : decode cX12_goesBehind 10 = .ok (.getfield 93, 3) := by decide +kernel
theorem dX12_goesBehind_13 : decode cX12_goesBehind 13 = .ok (.iload_n 3, 1) := by decide +kernel
theorem dX12_goesBehind_14 : decode cX12_goesBehind 14 = .ok (.iadd, 1) := by decide +kernel
theorem dX12_goesBehind_15 : decode cX12_goesBehind 15 = .ok (.invokevirtual 196, 3) := by decide +kernel
theorem dX12_goesBehind_18 : decode cX12_goesBehind 18 = .ok (.iinc 3 1, 3) := by decide +kernel
theorem dX12_goesBehind_21 : decode cX12_goesBehind 21 = .ok (.goto (-19), 3) := by decide +kernel
theorem dX12_goesBehind_24 : decode cX12_goesBehind 24 = .ok (.return_, 1) := by decide +kernel
set_option maxRecDepth 100000 in
set_option maxHeartbeats 4000000 in
theorem kX12_goesBehind (l : Launch) (w : wT) (hw : yOk w 20) (σ : Hp) (a1 : Int32) (a2 : Int32) (K : Hp → Prop) (hv : VX12_goesBehind K σ a1 a2) : yMet l w mcf 20 yX12_goesBehind cX12_goesBehind 4 none 5 [.ref (w.1 0), .int a1, .int a2] σ (yQv w mcf 20 K) := by
  unfold VX12_goesBehind at hv
  refine y_start (lv0 := [(0, .ref (w.1 0)), (1, .int a1), (2, .int a2)]) (by decide +kernel) (own := RX12) rfl hw (Nat.le_of_ble_eq_true rfl) rfl (fun p e s m below meth c A E => ?_)
  have hL2 : ∀ (n2 : Nat) (σ : Hp) (l1 : Int32) (l2 : Int32) (l3 : Int32), VX12_goesBehind_L2 K n2 σ l1 l2 l3 → YY p l e (yRm 5) s m [.ref (w.1 0), .int a1, .int a2].toArray below meth c w mcf 20 A (MQ below (yQv w mcf 20 K A) [.ref (w.1 0), .int a1, .int a2].toArray s 0 0 A) 4 σ 2 [(0, .ref (w.1 0)), (1, .int l1), (2, .int l2), (3, .int l3)] [] := by
    intro n2
    induction n2 with
    | zero => exact fun _ _ _ _ hv => (by unfold VX12_goesBehind_L2 at hv; exact hv.elim)
    | succ n2 ih2 =>
      intro σ l1 l2 l3 hv
      unfold VX12_goesBehind_L2 at hv
      refine y_iload_n E dX12_goesBehind_2 3 rfl ?_
      refine y_iload_n E dX12_goesBehind_3 2 rfl ?_
      refine y_icmp_ge (tgt := 24) E dX12_goesBehind_4 (by decide) (fun c1 => ?_) (fun c1 => ?_)
      · replace hv := ite_t hv c1
        exact y_vret E dX12_goesBehind_24 hv
      · replace hv := ite_f hv c1
        refine y_aload_n E dX12_goesBehind_7 0 rfl ?_
        refine y_iload_n E dX12_goesBehind_8 1 rfl ?_
        refine y_aload_n E dX12_goesBehind_9 0 rfl ?_
        refine gf_X12_1 E (by decide) (by decide) wm_495 dX12_goesBehind_10 ?_
        refine y_iload_n E dX12_goesBehind_13 3 rfl ?_
        refine y_iadd E dX12_goesBehind_14 ?_
        refine y_callv E (y_runV E (rest := []) (kX12_steps l w E.2.2.1 σ l1 ((σ 0 1) + l3) _ hv) (y_cwV 2 E.1.2.2.2.2 wm_594 wm_595 wm_596 wm_479 wm_597 (by decide +kernel) (yRm_le (by decide) (by decide))) (Nat.lt_of_lt_of_le (show 0 < 1 by decide) (by decide)) (mc_X12 (by decide) (by decide)) rfl rfl rfl (Nat.le_of_ble_eq_true rfl) dX12_goesBehind_15) (fun u3 hk => ?_)
        clear hv
        have hv := hk
        clear hk
        obtain ⟨x4, hx4⟩ : ∃ z : Int32, z = l3 + 1 := ⟨_, rfl⟩
        replace hv := hv x4 hx4
        refine y_iinc (v := x4) (lv' := [(3, .int x4), (0, .ref (w.1 0)), (1, .int l1), (2, .int l2)]) E dX12_goesBehind_18 3 rfl (by rw [hx4]; rfl) (by decide) rfl ?_
        refine y_goto (tgt := 2) E dX12_goesBehind_21 (by decide) ?_
        refine y_lv (lv' := [(0, .ref (w.1 0)), (1, .int l1), (2, .int l2), (3, .int x4)]) [1, 2, 3, 0] rfl ?_
        exact ih2 u3 l1 l2 x4 hv
  refine y_iconst (v := 0) E dX12_goesBehind_0 (by decide) ?_
  refine y_istore_n (lv' := [(3, .int 0), (0, .ref (w.1 0)), (1, .int a1), (2, .int a2)]) E dX12_goesBehind_1 (by decide) rfl ?_
  refine y_lv (lv' := [(0, .ref (w.1 0)), (1, .int a1), (2, .int a2), (3, .int 0)]) [1, 2, 3, 0] rfl ?_
  obtain ⟨n0, hv⟩ := hv
  exact hL2 n0 σ a1 a2 0 hv
theorem dX12_cellBehind_0 : decode cX12_cellBehind 0 = .ok (.aload_n 0, 1) := by decide +kernel
theorem dX12_cellBehind_1 : decode cX12_cellBehind 1 = .ok (.iload_n 1, 1) := by decide +kernel
theorem dX12_cellBehind_2 : decode cX12_cellBehind 2 = .ok (.invokevirtual 200, 3) := by decide +kernel
theorem dX12_cellBehind_5 : decode cX12_cellBehind 5 = .ok (.aload_n 0, 1) := by decide +kernel
theorem dX12_cellBehind_6 : decode cX12_cellBehind 6 = .ok (.iload_n 1, 1) := by decide +kernel
theorem dX12_cellBehind_7 : decode cX12_cellBehind 7 = .ok (.iload_n 2, 1) := by decide +kernel
theorem dX12_cellBehind_8 : decode cX12_cellBehind 8 = .ok (.invokevirtual 203, 3) := by decide +kernel
theorem dX12_cellBehind_11 : decode cX12_cellBehind 11 = .ok (.aload_n 0, 1) := by decide +kernel
theorem dX12_cellBehind_12 : decode cX12_cellBehind 12 = .ok (.getfield 181, 3) := by decide +kernel
theorem dX12_cellBehind_15 : decode cX12_cellBehind 15 = .ok (.ireturn, 1) := by decide +kernel
set_option maxRecDepth 100000 in
set_option maxHeartbeats 4000000 in
theorem kX12_cellBehind (l : Launch) (w : wT) (hw : yOk w 20) (σ : Hp) (a1 : Int32) (a2 : Int32) (K : Int32 → Hp → Prop) (hv : VX12_cellBehind K σ a1 a2) : yMet l w mcf 20 yX12_cellBehind cX12_cellBehind 3 (some .int) 6 [.ref (w.1 0), .int a1, .int a2] σ (yQi w mcf 20 K) := by
  unfold VX12_cellBehind at hv
  refine y_start (lv0 := [(0, .ref (w.1 0)), (1, .int a1), (2, .int a2)]) (by decide +kernel) (own := RX12) rfl hw (Nat.le_of_ble_eq_true rfl) rfl (fun p e s m below meth c A E => ?_)
  refine y_aload_n E dX12_cellBehind_0 0 rfl ?_
  refine y_iload_n E dX12_cellBehind_1 1 rfl ?_
  refine y_callv E (y_runV E (rest := []) (kX12_begins l w E.2.2.1 σ a1 _ hv) (y_cwV 1 E.1.2.2.2.2 wm_598 wm_603 wm_604 wm_479 wm_605 (by decide +kernel) (yRm_le (by decide) (by decide))) (Nat.lt_of_lt_of_le (show 0 < 1 by decide) (by decide)) (mc_X12 (by decide) (by decide)) rfl rfl rfl (Nat.le_of_ble_eq_true rfl) dX12_cellBehind_2) (fun u2 hk => ?_)
  clear hv
  have hv := hk
  clear hk
  refine y_aload_n E dX12_cellBehind_5 0 rfl ?_
  refine y_iload_n E dX12_cellBehind_6 1 rfl ?_
  refine y_iload_n E dX12_cellBehind_7 2 rfl ?_
  refine y_callv E (y_runV E (rest := []) (kX12_goesBehind l w E.2.2.1 u2 a1 a2 _ hv) (y_cwV 2 E.1.2.2.2.2 wm_599 wm_600 wm_601 wm_479 wm_602 (by decide +kernel) (yRm_le (by decide) (by decide))) (Nat.lt_of_lt_of_le (show 0 < 1 by decide) (by decide)) (mc_X12 (by decide) (by decide)) rfl rfl rfl (Nat.le_of_ble_eq_true rfl) dX12_cellBehind_8) (fun u4 hk => ?_)
  clear hv
  have hv := hk
  clear hk
  refine y_aload_n E dX12_cellBehind_11 0 rfl ?_
  refine gf_X12_32 E (by decide) (by decide) wm_581 dX12_cellBehind_12 ?_
  exact y_iret E dX12_cellBehind_15 hv
theorem dX12_at_0 : decode cX12_at 0 = .ok (.iload_n 1, 1) := by decide +kernel
theorem dX12_at_1 : decode cX12_at 1 = .ok (.invokestatic 206, 3) := by decide +kernel
theorem dX12_at_4 : decode cX12_at 4 = .ok (.ifCond .eq 11, 3) := by decide +kernel
theorem dX12_at_7 : decode cX12_at 7 = .ok (.aload_n 0, 1) := by decide +kernel
theorem dX12_at_8 : decode cX12_at 8 = .ok (.iload_n 2, 1) := by decide +kernel
theorem dX12_at_9 : decode cX12_at 9 = .ok (.invokevirtual 178, 3) := by decide +kernel
theorem dX12_at_12 : decode cX12_at 12 = .ok (.ifCond .ne 6, 3) := by decide +kernel
theorem dX12_at_15 : decode cX12_at 15 = .ok (.bipush (-5), 2) := by decide +kernel
theorem dX12_at_17 : decode cX12_at 17 = .ok (.ireturn, 1) := by decide +kernel
theorem dX12_at_18 : decode cX12_at 18 = .ok (.iload_n 3, 1) := by decide +kernel
theorem dX12_at_19 : decode cX12_at 19 = .ok (.iconst 0, 1) := by decide +kernel
theorem dX12_at_20 : decode cX12_at 20 = .ok (.iconst 1, 1) := by decide +kernel
theorem dX12_at_21 : decode cX12_at 21 = .ok (.invokestatic 75, 3) := by decide +kernel
theorem dX12_at_24 : decode cX12_at 24 = .ok (.ifCond .ne 6, 3) := by decide +kernel
theorem dX12_at_27 : decode cX12_at 27 = .ok (.bipush (-7), 2) := by decide +kernel
theorem dX12_at_29 : decode cX12_at 29 = .ok (.ireturn, 1) := by decide +kernel
theorem dX12_at_30 : decode cX12_at 30 = .ok (.aload_n 0, 1) := by decide +kernel
theorem dX12_at_31 : decode cX12_at 31 = .ok (.iload_n 2, 1) := by decide +kernel
theorem dX12_at_32 : decode cX12_at 32 = .ok (.iload_n 1, 1) := by decide +kernel
theorem dX12_at_33 : decode cX12_at 33 = .ok (.invokevirtual 209, 3) := by decide +kernel
theorem dX12_at_36 : decode cX12_at 36 = .ok (.istore 4, 2) := by decide +kernel
theorem dX12_at_38 : decode cX12_at 38 = .ok (.iload_n 3, 1) := by decide +kernel
theorem dX12_at_39 : decode cX12_at 39 = .ok (.ifCond .ne 8, 3) := by decide +kernel
theorem dX12_at_42 : decode cX12_at 42 = .ok (.iload 4, 2) := by decide +kernel
theorem dX12_at_44 : decode cX12_at 44 = .ok (.goto 7, 3) := by decide +kernel
theorem dX12_at_47 : decode cX12_at 47 = .ok (.aload_n 0, 1) := by decide +kernel
theorem dX12_at_48 : decode cX12_at 48 = .ok (.getfield 184, 3) := by decide +kernel
theorem dX12_at_51 : decode cX12_at 51 = .ok (.ireturn, 1) := by decide +kernel
set_option maxRecDepth 100000 in
set_option maxHeartbeats 4000000 in
theorem kX12_at (l : Launch) (w : wT) (hw : yOk w 20) (σ : Hp) (a1 : Int32) (a2 : Int32) (a3 : Int32) (K : Int32 → Hp → Prop) (hv : VX12_at K σ a1 a2 a3) : yMet l w mcf 20 yX12_at cX12_at 5 (some .int) 7 [.ref (w.1 0), .int a1, .int a2, .int a3] σ (yQi w mcf 20 K) := by
  unfold VX12_at at hv
  refine y_start (lv0 := [(0, .ref (w.1 0)), (1, .int a1), (2, .int a2), (3, .int a3)]) (by decide +kernel) (own := RX12) rfl hw (Nat.le_of_ble_eq_true rfl) rfl (fun p e s m below meth c A E => ?_)
  refine y_iload_n E dX12_at_0 1 rfl ?_
  refine y_calli E (y_runS E (rest := []) (kX12_areSteps l w E.2.2.1 σ a1 _ hv) (y_cwS 1 E.1.2.2.2.2 wm_606 wm_611 wm_479 wm_612 (by decide +kernel) (yRm_le (by decide) (by decide))) rfl rfl (Nat.le_of_ble_eq_true rfl) dX12_at_1) (fun v1 u2 hk => ?_)
  clear hv
  have hv := hk
  clear hk
  refine y_if_eq (tgt := 15) E dX12_at_4 (by decide) (fun c3 => ?_) (fun c3 => ?_)
  · replace hv := ite_t hv c3
    refine y_bipush (v := (-5)) E dX12_at_15 (by decide) ?_
    exact y_iret E dX12_at_17 hv
  · replace hv := ite_f hv c3
    refine y_aload_n E dX12_at_7 0 rfl ?_
    refine y_iload_n E dX12_at_8 2 rfl ?_
    refine y_calli E (y_runV E (rest := []) (kX12_isThing l w E.2.2.1 u2 a2 _ hv) (y_cwV 1 E.1.2.2.2.2 wm_577 wm_578 wm_579 wm_479 wm_580 (by decide +kernel) (yRm_le (by decide) (by decide))) (Nat.lt_of_lt_of_le (show 0 < 1 by decide) (by decide)) (mc_X12 (by decide) (by decide)) rfl rfl rfl (Nat.le_of_ble_eq_true rfl) dX12_at_9) (fun v4 u5 hk => ?_)
    clear hv
    have hv := hk
    clear hk
    refine y_if_ne (tgt := 18) E dX12_at_12 (by decide) (fun c6 => ?_) (fun c6 => ?_)
    · replace hv := ite_f hv c6
      refine y_iload_n E dX12_at_18 3 rfl ?_
      refine y_iconst (v := 0) E dX12_at_19 (by decide) ?_
      refine y_iconst (v := 1) E dX12_at_20 (by decide) ?_
      refine y_calli E (y_runS E (rest := []) (kX12_in l w E.2.2.1 u5 a3 0 1 _ hv) (y_cwS 3 E.1.2.2.2.2 wm_477 wm_478 wm_479 wm_480 (by decide +kernel) (yRm_le (by decide) (by decide))) rfl rfl (Nat.le_of_ble_eq_true rfl) dX12_at_21) (fun v7 u8 hk => ?_)
      clear hv
      have hv := hk
      clear hk
      refine y_if_ne (tgt := 30) E dX12_at_24 (by decide) (fun c9 => ?_) (fun c9 => ?_)
      · replace hv := ite_f hv c9
        refine y_aload_n E dX12_at_30 0 rfl ?_
        refine y_iload_n E dX12_at_31 2 rfl ?_
        refine y_iload_n E dX12_at_32 1 rfl ?_
        refine y_calli E (y_runV E (rest := []) (kX12_cellBehind l w E.2.2.1 u8 a2 a1 _ hv) (y_cwV 2 E.1.2.2.2.2 wm_607 wm_608 wm_609 wm_479 wm_610 (by decide +kernel) (yRm_le (by decide) (by decide))) (Nat.lt_of_lt_of_le (show 0 < 1 by decide) (by decide)) (mc_X12 (by decide) (by decide)) rfl rfl rfl (Nat.le_of_ble_eq_true rfl) dX12_at_33) (fun v10 u11 hk => ?_)
        clear hv
        have hv := hk
        clear hk
        refine y_istore (lv' := [(4, .int v10), (0, .ref (w.1 0)), (1, .int a1), (2, .int a2), (3, .int a3)]) E dX12_at_36 (by decide) rfl ?_
        refine y_iload_n E dX12_at_38 4 rfl ?_
        refine y_if_ne (tgt := 47) E dX12_at_39 (by decide) (fun c12 => ?_) (fun c12 => ?_)
        · replace hv := ite_f hv c12
          refine y_aload_n E dX12_at_47 1 rfl ?_
          refine gf_X12_33 E (by decide) (by decide) wm_582 dX12_at_48 ?_
          exact y_iret E dX12_at_51 hv
        · replace hv := ite_t hv c12
          refine y_iload E dX12_at_42 0 rfl ?_
          refine y_goto (tgt := 51) E dX12_at_44 (by decide) ?_
          exact y_iret E dX12_at_51 hv
      · replace hv := ite_t hv c9
        refine y_bipush (v := (-7)) E dX12_at_27 (by decide) ?_
        exact y_iret E dX12_at_29 hv
    · replace hv := ite_t hv c6
      refine y_bipush (v := (-5)) E dX12_at_15 (by decide) ?_
      exact y_iret E dX12_at_17 hv
theorem dX12_run_0 : decode cX12_run 0 = .ok (.iload_n 1, 1) := by decide +kernel
theorem dX12_run_1 : decode cX12_run 1 = .ok (.invokestatic 206, 3) := by decide +kernel
theorem dX12_run_4 : decode cX12_run 4 = .ok (.ifCond .ne 6, 3) := by decide +kernel
theorem dX12_run_7 : decode cX12_run 7 = .ok (.bipush (-2), 2) := by decide +kernel
theorem dX12_run_9 : decode cX12_run 9 = .ok (.ireturn, 1) := by decide +kernel
theorem dX12_run_10 : decode cX12_run 10 = .ok (.iconst 0, 1) := by decide +kernel
theorem dX12_run_11 : decode cX12_run 11 = .ok (.istore_n 2, 1) := by decide +kernel
theorem dX12_run_12 : decode cX12_run 12 = .ok (.iconst 0, 1) := by decide +kernel
theorem dX12_run_13 : decode cX12_run 13 = .ok (.istore_n 3, 1) := by decide +kernel
theorem dX12_run_14 : decode cX12_run 14 = .ok (.iload_n 3, 1) := by decide +kernel
theorem dX12_run_15 : decode cX12_run 15 = .ok (.aload_n 0, 1) := by decide +kernel
theorem dX12_run_16 : decode cX12_run 16 = .ok (.getfield 87, 3) := by decide +kernel
theorem dX12_run_19 : decode cX12_run 19 = .ok (.if_icmp .ge 47, 3) := by decide +kernel
theorem dX12_run_22 : decode cX12_run 22 = .ok (.aload_n 0, 1) := by decide +kernel
theorem dX12_run_23 : decode cX12_run 23 = .ok (.getfield 19, 3) := by decide +kernel
theorem dX12_run_26 : decode cX12_run 26 = .ok (.iload_n 3, 1) := by decide +kernel
theorem dX12_run_27 : decode cX12_run 27 = .ok (.aload_n 0, 1) := by decide +kernel
theorem dX12_run_28 : decode cX12_run 28 = .ok (.iload_n 3, 1) := by decide +kernel
theorem dX12_run_29 : decode cX12_run 29 = .ok (.iload_n 1, 1) := by decide +kernel
theorem dX12_run_30 : decode cX12_run 30 = .ok (.invokevirtual 209, 3) := by decide +kernel
theorem dX12_run_33 : decode cX12_run 33 = .ok (.iastore, 1) := by decide +kernel
theorem dX12_run_34 : decode cX12_run 34 = .ok (.aload_n 0, 1) := by decide +kernel
theorem dX12_run_35 : decode cX12_run 35 = .ok (.getfield 22, 3) := by decide +kernel
theorem dX12_run_38 : decode cX12_run 38 = .ok (.iload_n 3, 1) := by decide +kernel
theorem dX12_run_39 : decode cX12_run 39 = .ok (.aload_n 0, 1) := by decide +kernel
theorem dX12_run_40 : decode cX12_run 40 = .ok (.getfield 184, 3) := by decide +kernel
theorem dX12_run_43 : decode cX12_run 43 = .ok (.iastore, 1) := by decide +kernel
theorem dX12_run_44 : decode cX12_run 44 = .ok (.iload_n 2, 1) := by decide +kernel
theorem dX12_run_45 : decode cX12_run 45 = .ok (.aload_n 0, 1) := by decide +kernel
theorem dX12_run_46 : decode cX12_run 46 = .ok (.getfield 184, 3) := by decide +kernel
theorem dX12_run_49 : decode cX12_run 49 = .ok (.iconst 4, 1) := by decide +kernel
theorem dX12_run_50 : decode cX12_run 50 = .ok (.if_icmp .ne 7, 3) := by decide +kernel
theorem dX12_run_53 : decode cX12_run 53 = .ok (.iconst 1, 1) := by decide +kernel
theorem dX12_run_54 : decode cX12_run 54 = .ok (.goto 4, 3) := by decide +kernel
theorem dX12_run_57 : decode cX12_run 57 = .ok (.iconst 0, 1) := by decide +kernel
theorem dX12_run_58 : decode cX12_run 58 = .ok (.iadd, 1) := by decide +kernel
theorem dX12_run_59 : decode cX12_run 59 = .ok (.istore_n 2, 1) := by decide +kernel
theorem dX12_run_60 : decode cX12_run 60 = .ok (.iinc 3 1, 3) := by decide +kernel
theorem dX12_run_63 : decode cX12_run 63 = .ok (.goto (-49), 3) := by decide +kernel
theorem dX12_run_66 : decode cX12_run 66 = .ok (.aload_n 0, 1) := by decide +kernel
theorem dX12_run_67 : decode cX12_run 67 = .ok (.aload_n 0, 1) := by decide +kernel
theorem dX12_run_68 : decode cX12_run 68 = .ok (.getfield 93, 3) := by decide +kernel
theorem dX12_run_71 : decode cX12_run 71 = .ok (.iload_n 1, 1) := by decide +kernel
theorem dX12_run_72 : decode cX12_run 72 = .ok (.iadd, 1) := by decide +kernel
theorem dX12_run_73 : decode cX12_run 73 = .ok (.iconst 0, 1) := by decide +kernel
theorem dX12_run_74 : decode cX12_run 74 = .ok (.bipush 99, 2) := by decide +kernel
theorem dX12_run_76 : decode cX12_run 76 = .ok (.invokestatic 168, 3) := by decide +kernel
theorem dX12_run_79 : decode cX12_run 79 = .ok (.putfield 93, 3) := by decide +kernel
theorem dX12_run_82 : decode cX12_run 82 = .ok (.iload_n 2, 1) := by decide +kernel
theorem dX12_run_83 : decode cX12_run 83 = .ok (.ireturn, 1) := by decide +kernel
set_option maxRecDepth 100000 in
set_option maxHeartbeats 4000000 in
theorem kX12_run (l : Launch) (w : wT) (hw : yOk w 20) (σ : Hp) (a1 : Int32) (K : Int32 → Hp → Prop) (hv : VX12_run K σ a1) : yMet l w mcf 20 yX12_run cX12_run 4 (some .int) 7 [.ref (w.1 0), .int a1] σ (yQi w mcf 20 K) := by
  unfold VX12_run at hv
  refine y_start (lv0 := [(0, .ref (w.1 0)), (1, .int a1)]) (by decide +kernel) (own := RX12) rfl hw (Nat.le_of_ble_eq_true rfl) rfl (fun p e s m below meth c A E => ?_)
  have hL14 : ∀ (n14 : Nat) (σ : Hp) (l1 : Int32) (l2 : Int32) (l3 : Int32), VX12_run_L14 K n14 σ l1 l2 l3 → YY p l e (yRm 7) s m [.ref (w.1 0), .int a1].toArray below meth c w mcf 20 A (MQ below (yQi w mcf 20 K A) [.ref (w.1 0), .int a1].toArray s 0 0 A) 4 σ 14 [(0, .ref (w.1 0)), (1, .int l1), (2, .int l2), (3, .int l3)] [] := by
    intro n14
    induction n14 with
    | zero => exact fun _ _ _ _ hv => (by unfold VX12_run_L14 at hv; exact hv.elim)
    | succ n14 ih14 =>
      intro σ l1 l2 l3 hv
      unfold VX12_run_L14 at hv
      refine y_iload_n E dX12_run_14 3 rfl ?_
      refine y_aload_n E dX12_run_15 0 rfl ?_
      refine gf_X12_2 E (by decide) (by decide) wm_489 dX12_run_16 ?_
      refine y_icmp_ge (tgt := 66) E dX12_run_19 (by decide) (fun c4 => ?_) (fun c4 => ?_)
      · replace hv := ite_t hv c4
        refine y_aload_n E dX12_run_66 0 rfl ?_
        refine y_aload_n E dX12_run_67 0 rfl ?_
        refine gf_X12_1 E (by decide) (by decide) wm_495 dX12_run_68 ?_
        refine y_iload_n E dX12_run_71 1 rfl ?_
        refine y_iadd E dX12_run_72 ?_
        refine y_iconst (v := 0) E dX12_run_73 (by decide) ?_
        refine y_bipush (v := 99) E dX12_run_74 (by decide) ?_
        refine y_calli E (y_runS E (rest := [.ref (w.1 0)]) (kX12_within l w E.2.2.1 σ ((σ 0 1) + l1) 0 99 _ hv) (y_cwS 3 E.1.2.2.2.2 wm_560 wm_561 wm_479 wm_562 (by decide +kernel) (yRm_le (by decide) (by decide))) rfl rfl (Nat.le_of_ble_eq_true rfl) dX12_run_76) (fun v5 u6 hk => ?_)
        clear hv
        have hv := hk
        clear hk
        refine pf_X12_1 E (by decide) (by decide) wm_495 dX12_run_79 ?_
        refine y_nmH (fun u7 hu7 => ?_)
        replace hv := hv u7 hu7
        refine y_iload_n E dX12_run_82 2 rfl ?_
        exact y_iret E dX12_run_83 hv
      · replace hv := ite_f hv c4
        refine y_aload_n E dX12_run_22 0 rfl ?_
        refine gf_X12_5 E (by decide) (by decide) wm_490 dX12_run_23 ?_
        refine y_iload_n E dX12_run_26 3 rfl ?_
        refine y_aload_n E dX12_run_27 0 rfl ?_
        refine y_iload_n E dX12_run_28 3 rfl ?_
        refine y_iload_n E dX12_run_29 1 rfl ?_
        refine y_calli E (y_runV E (rest := [.int l3, .ref (w.1 4)]) (kX12_cellBehind l w E.2.2.1 σ l3 l1 _ hv) (y_cwV 2 E.1.2.2.2.2 wm_607 wm_608 wm_609 wm_479 wm_610 (by decide +kernel) (yRm_le (by decide) (by decide))) (Nat.lt_of_lt_of_le (show 0 < 1 by decide) (by decide)) (mc_X12 (by decide) (by decide)) rfl rfl rfl (Nat.le_of_ble_eq_true rfl) dX12_run_30) (fun v8 u9 hk => ?_)
        clear hv
        have hv := hk
        clear hk
        obtain ⟨hi, hv⟩ := hv
        refine y_iast E (Nat.lt_of_lt_of_le (show 4 < 5 by decide) (by decide)) (fun _ => mc_m_cellOf (by decide) (by decide)) hi dX12_run_33 ?_
        refine y_nmH (fun u10 hu10 => ?_)
        replace hv := hv u10 hu10
        refine y_aload_n E dX12_run_34 0 rfl ?_
        refine gf_X12_6 E (by decide) (by decide) wm_573 dX12_run_35 ?_
        refine y_iload_n E dX12_run_38 3 rfl ?_
        refine y_aload_n E dX12_run_39 0 rfl ?_
        refine gf_X12_33 E (by decide) (by decide) wm_582 dX12_run_40 ?_
        obtain ⟨hi, hv⟩ := hv
        refine y_iast E (Nat.lt_of_lt_of_le (show 5 < 6 by decide) (by decide)) (fun _ => mc_m_wayOf (by decide) (by decide)) hi dX12_run_43 ?_
        refine y_nmH (fun u11 hu11 => ?_)
        replace hv := hv u11 hu11
        refine y_iload_n E dX12_run_44 2 rfl ?_
        refine y_aload_n E dX12_run_45 0 rfl ?_
        refine gf_X12_33 E (by decide) (by decide) wm_582 dX12_run_46 ?_
        refine y_iconst (v := 4) E dX12_run_49 (by decide) ?_
        refine y_icmp_ne (tgt := 57) E dX12_run_50 (by decide) (fun c12 => ?_) (fun c12 => ?_)
        · replace hv := ite_f hv c12
          refine y_iconst (v := 0) E dX12_run_57 (by decide) ?_
          refine y_iadd E dX12_run_58 ?_
          refine y_nmi (fun x13 hx13 => ?_)
          replace hv := hv x13 hx13
          refine y_istore_n (lv' := [(2, .int x13), (0, .ref (w.1 0)), (1, .int l1), (3, .int l3)]) E dX12_run_59 (by decide) rfl ?_
          obtain ⟨x14, hx14⟩ : ∃ z : Int32, z = l3 + 1 := ⟨_, rfl⟩
          replace hv := hv x14 hx14
          refine y_iinc (v := x14) (lv' := [(3, .int x14), (2, .int x13), (0, .ref (w.1 0)), (1, .int l1)]) E dX12_run_60 3 rfl (by rw [hx14]; rfl) (by decide) rfl ?_
          refine y_goto (tgt := 14) E dX12_run_63 (by decide) ?_
          refine y_lv (lv' := [(0, .ref (w.1 0)), (1, .int l1), (2, .int x13), (3, .int x14)]) [2, 3, 1, 0] rfl ?_
          exact ih14 u11 l1 x13 x14 hv
        · replace hv := ite_t hv c12
          refine y_iconst (v := 1) E dX12_run_53 (by decide) ?_
          refine y_goto (tgt := 58) E dX12_run_54 (by decide) ?_
          refine y_iadd E dX12_run_58 ?_
          refine y_nmi (fun x15 hx15 => ?_)
          replace hv := hv x15 hx15
          refine y_istore_n (lv' := [(2, .int x15), (0, .ref (w.1 0)), (1, .int l1), (3, .int l3)]) E dX12_run_59 (by decide) rfl ?_
          obtain ⟨x16, hx16⟩ : ∃ z : Int32, z = l3 + 1 := ⟨_, rfl⟩
          replace hv := hv x16 hx16
          refine y_iinc (v := x16) (lv' := [(3, .int x16), (2, .int x15), (0, .ref (w.1 0)), (1, .int l1)]) E dX12_run_60 3 rfl (by rw [hx16]; rfl) (by decide) rfl ?_
          refine y_goto (tgt := 14) E dX12_run_63 (by decide) ?_
          refine y_lv (lv' := [(0, .ref (w.1 0)), (1, .int l1), (2, .int x15), (3, .int x16)]) [2, 3, 1, 0] rfl ?_
          exact ih14 u11 l1 x15 x16 hv
  refine y_iload_n E dX12_run_0 1 rfl ?_
  refine y_calli E (y_runS E (rest := []) (kX12_areSteps l w E.2.2.1 σ a1 _ hv) (y_cwS 1 E.1.2.2.2.2 wm_606 wm_611 wm_479 wm_612 (by decide +kernel) (yRm_le (by decide) (by decide))) rfl rfl (Nat.le_of_ble_eq_true rfl) dX12_run_1) (fun v1 u2 hk => ?_)
  clear hv
  have hv := hk
  clear hk
  refine y_if_ne (tgt := 10) E dX12_run_4 (by decide) (fun c3 => ?_) (fun c3 => ?_)
  · replace hv := ite_f hv c3
    refine y_iconst (v := 0) E dX12_run_10 (by decide) ?_
    refine y_istore_n (lv' := [(2, .int 0), (0, .ref (w.1 0)), (1, .int a1)]) E dX12_run_11 (by decide) rfl ?_
    refine y_iconst (v := 0) E dX12_run_12 (by decide) ?_
    refine y_istore_n (lv' := [(3, .int 0), (2, .int 0), (0, .ref (w.1 0)), (1, .int a1)]) E dX12_run_13 (by decide) rfl ?_
    refine y_lv (lv' := [(0, .ref (w.1 0)), (1, .int a1), (2, .int 0), (3, .int 0)]) [2, 3, 1, 0] rfl ?_
    obtain ⟨n0, hv⟩ := hv
    exact hL14 n0 u2 a1 0 0 hv
  · replace hv := ite_t hv c3
    refine y_bipush (v := (-2)) E dX12_run_7 (by decide) ?_
    exact y_iret E dX12_run_9 hv
theorem dX12_first0_0 : decode cX12_first0 0 = .ok (.iconst 0, 1) := by decide +kernel
theorem dX12_first0_1 : decode cX12_first0 1 = .ok (.istore_n 3, 1) := by decide +kernel
theorem dX12_first0_2 : decode cX12_first0 2 = .ok (.iload_n 3, 1) := by decide +kernel
theorem dX12_first0_3 : decode cX12_first0 3 = .ok (.bipush 40, 2) := by decide +kernel
theorem dX12_first0_5 : decode cX12_first0 5 = .ok (.if_icmp .gt 30, 3) := by decide +kernel
theorem dX12_first0_8 : decode cX12_first0 8 = .ok (.aload_n 0, 1) := by decide +kernel
theorem dX12_first0_9 : decode cX12_first0 9 = .ok (.getfield 181, 3) := by decide +kernel
theorem dX12_first0_12 : decode cX12_first0 12 = .ok (.iload_n 2, 1) := by decide +kernel
theorem dX12_first0_13 : decode cX12_first0 13 = .ok (.if_icmp .ne 5, 3) := by decide +kernel
theorem dX12_first0_16 : decode cX12_first0 16 = .ok (.iload_n 3, 1) := by decide +kernel
theorem dX12_first0_17 : decode cX12_first0 17 = .ok (.ireturn, 1) := by decide +kernel
theorem dX12_first0_18 : decode cX12_first0 18 = .ok (.aload_n 0, 1) := by decide +kernel
theorem dX12_first0_19 : decode cX12_first0 19 = .ok (.iload_n 1, 1) := by decide +kernel
theorem dX12_first0_20 : decode cX12_first0 20 = .ok (.aload_n 0, 1) := by decide +kernel
theorem dX12_first0_21 : decode cX12_first0 21 = .ok (.getfield 93, 3) := by decide +kernel
theorem dX12_first0_24 : decode cX12_first0 24 = .ok (.iload_n 3, 1) := by decide +kernel
theorem dX12_first0_25 : decode cX12_first0 25 = .ok (.iadd, 1) := by decide +kernel
theorem dX12_first0_26 : decode cX12_first0 26 = .ok (.invokevirtual 196, 3) := by decide +kernel
theorem dX12_first0_29 : decode cX12_first0 29 = .ok (.iinc 3 1, 3) := by decide +kernel
theorem dX12_first0_32 : decode cX12_first0 32 = .ok (.goto (-30), 3) := by decide +kernel
theorem dX12_first0_35 : decode cX12_first0 35 = .ok (.iconst (-1), 1) := by decide +kernel
theorem dX12_first0_36 : decode cX12_first0 36 = .ok (.ireturn, 1) := by decide +kernel
set_option maxRecDepth 100000 in
set_option maxHeartbeats 4000000 in
theorem kX12_first0 (l : Launch) (w : wT) (hw : yOk w 20) (σ : Hp) (a1 : Int32) (a2 : Int32) (K : Int32 → Hp → Prop) (hv : VX12_first0 K σ a1 a2) : yMet l w mcf 20 yX12_first0 cX12_first0 4 (some .int) 5 [.ref (w.1 0), .int a1, .int a2] σ (yQi w mcf 20 K) := by
  unfold VX12_first0 at hv
  refine y_start (lv0 := [(0, .ref (w.1 0)), (1, .int a1), (2, .int a2)]) (by decide +kernel) (own := RX12) rfl hw (Nat.le_of_ble_eq_true rfl) rfl (fun p e s m below meth c A E => ?_)
  have hL2 : ∀ (n2 : Nat) (σ : Hp) (l1 : Int32) (l2 : Int32) (l3 : Int32), VX12_first0_L2 K n2 σ l1 l2 l3 → YY p l e (yRm 5) s m [.ref (w.1 0), .int a1, .int a2].toArray below meth c w mcf 20 A (MQ below (yQi w mcf 20 K A) [.ref (w.1 0), .int a1, .int a2].toArray s 0 0 A) 4 σ 2 [(0, .ref (w.1 0)), (1, .int l1), (2, .int l2), (3, .int l3)] [] := by
    intro n2
    induction n2 with
    | zero => exact fun _ _ _ _ hv => (by unfold VX12_first0_L2 at hv; exact hv.elim)
    | succ n2 ih2 =>
      intro σ l1 l2 l3 hv
      unfold VX12_first0_L2 at hv
      refine y_iload_n E dX12_first0_2 3 rfl ?_
      refine y_bipush (v := 40) E dX12_first0_3 (by decide) ?_
      refine y_icmp_gt (tgt := 35) E dX12_first0_5 (by decide) (fun c1 => ?_) (fun c1 => ?_)
      · replace hv := ite_t hv c1
        refine y_iconst (v := (-1)) E dX12_first0_35 (by decide) ?_
        exact y_iret E dX12_first0_36 hv
      · replace hv := ite_f hv c1
        refine y_aload_n E dX12_first0_8 0 rfl ?_
        refine gf_X12_32 E (by decide) (by decide) wm_581 dX12_first0_9 ?_
        refine y_iload_n E dX12_first0_12 2 rfl ?_
        refine y_icmp_ne (tgt := 18) E dX12_first0_13 (by decide) (fun c2 => ?_) (fun c2 => ?_)
        · replace hv := ite_f hv c2
          refine y_aload_n E dX12_first0_18 0 rfl ?_
          refine y_iload_n E dX12_first0_19 1 rfl ?_
          refine y_aload_n E dX12_first0_20 0 rfl ?_
          refine gf_X12_1 E (by decide) (by decide) wm_495 dX12_first0_21 ?_
          refine y_iload_n E dX12_first0_24 3 rfl ?_
          refine y_iadd E dX12_first0_25 ?_
          refine y_callv E (y_runV E (rest := []) (kX12_steps l w E.2.2.1 σ l1 ((σ 0 1) + l3) _ hv) (y_cwV 2 E.1.2.2.2.2 wm_594 wm_595 wm_596 wm_479 wm_597 (by decide +kernel) (yRm_le (by decide) (by decide))) (Nat.lt_of_lt_of_le (show 0 < 1 by decide) (by decide)) (mc_X12 (by decide) (by decide)) rfl rfl rfl (Nat.le_of_ble_eq_true rfl) dX12_first0_26) (fun u4 hk => ?_)
          clear hv
          have hv := hk
          clear hk
          obtain ⟨x5, hx5⟩ : ∃ z : Int32, z = l3 + 1 := ⟨_, rfl⟩
          replace hv := hv x5 hx5
          refine y_iinc (v := x5) (lv' := [(3, .int x5), (0, .ref (w.1 0)), (1, .int l1), (2, .int l2)]) E dX12_first0_29 3 rfl (by rw [hx5]; rfl) (by decide) rfl ?_
          refine y_goto (tgt := 2) E dX12_first0_32 (by decide) ?_
          refine y_lv (lv' := [(0, .ref (w.1 0)), (1, .int l1), (2, .int l2), (3, .int x5)]) [1, 2, 3, 0] rfl ?_
          exact ih2 u4 l1 l2 x5 hv
        · replace hv := ite_t hv c2
          refine y_iload_n E dX12_first0_16 3 rfl ?_
          exact y_iret E dX12_first0_17 hv
  refine y_iconst (v := 0) E dX12_first0_0 (by decide) ?_
  refine y_istore_n (lv' := [(3, .int 0), (0, .ref (w.1 0)), (1, .int a1), (2, .int a2)]) E dX12_first0_1 (by decide) rfl ?_
  refine y_lv (lv' := [(0, .ref (w.1 0)), (1, .int a1), (2, .int a2), (3, .int 0)]) [1, 2, 3, 0] rfl ?_
  obtain ⟨n0, hv⟩ := hv
  exact hL2 n0 σ a1 a2 0 hv
theorem dX12_when_0 : decode cX12_when 0 = .ok (.aload_n 0, 1) := by decide +kernel
theorem dX12_when_1 : decode cX12_when 1 = .ok (.iload_n 1, 1) := by decide +kernel
theorem dX12_when_2 : decode cX12_when 2 = .ok (.invokevirtual 178, 3) := by decide +kernel
theorem dX12_when_5 : decode cX12_when 5 = .ok (.ifCond .ne 6, 3) := by decide +kernel
theorem dX12_when_8 : decode cX12_when 8 = .ok (.bipush (-5), 2) := by decide +kernel
theorem dX12_when_10 : decode cX12_when 10 = .ok (.ireturn, 1) := by decide +kernel
theorem dX12_when_11 : decode cX12_when 11 = .ok (.iload_n 2, 1) := by decide +kernel
theorem dX12_when_12 : decode cX12_when 12 = .ok (.invokestatic 79, 3) := by decide +kernel
theorem dX12_when_15 : decode cX12_when 15 = .ok (.ifCond .ne 6, 3) := by decide +kernel
theorem dX12_when_18 : decode cX12_when 18 = .ok (.bipush (-7), 2) := by decide +kernel
theorem dX12_when_20 : decode cX12_when 20 = .ok (.ireturn, 1) := by decide +kernel
theorem dX12_when_21 : decode cX12_when 21 = .ok (.aload_n 0, 1) := by decide +kernel
theorem dX12_when_22 : decode cX12_when 22 = .ok (.iload_n 1, 1) := by decide +kernel
theorem dX12_when_23 : decode cX12_when 23 = .ok (.invokevirtual 200, 3) := by decide +kernel
theorem dX12_when_26 : decode cX12_when 26 = .ok (.aload_n 0, 1) := by decide +kernel
theorem dX12_when_27 : decode cX12_when 27 = .ok (.iload_n 1, 1) := by decide +kernel
theorem dX12_when_28 : decode cX12_when 28 = .ok (.iload_n 2, 1) := by decide +kernel
theorem dX12_when_29 : decode cX12_when 29 = .ok (.invokevirtual 212, 3) := by decide +kernel
theorem dX12_when_32 : decode cX12_when 32 = .ok (.ireturn, 1) := by decide +kernel
set_option maxRecDepth 100000 in
set_option maxHeartbeats 4000000 in
theorem kX12_when (l : Launch) (w : wT) (hw : yOk w 20) (σ : Hp) (a1 : Int32) (a2 : Int32) (K : Int32 → Hp → Prop) (hv : VX12_when K σ a1 a2) : yMet l w mcf 20 yX12_when cX12_when 3 (some .int) 6 [.ref (w.1 0), .int a1, .int a2] σ (yQi w mcf 20 K) := by
  unfold VX12_when at hv
  refine y_start (lv0 := [(0, .ref (w.1 0)), (1, .int a1), (2, .int a2)]) (by decide +kernel) (own := RX12) rfl hw (Nat.le_of_ble_eq_true rfl) rfl (fun p e s m below meth c A E => ?_)
  refine y_aload_n E dX12_when_0 0 rfl ?_
  refine y_iload_n E dX12_when_1 1 rfl ?_
  refine y_calli E (y_runV E (rest := []) (kX12_isThing l w E.2.2.1 σ a1 _ hv) (y_cwV 1 E.1.2.2.2.2 wm_577 wm_578 wm_579 wm_479 wm_580 (by decide +kernel) (yRm_le (by decide) (by decide))) (Nat.lt_of_lt_of_le (show 0 < 1 by decide) (by decide)) (mc_X12 (by decide) (by decide)) rfl rfl rfl (Nat.le_of_ble_eq_true rfl) dX12_when_2) (fun v1 u2 hk => ?_)
  clear hv
  have hv := hk
  clear hk
  refine y_if_ne (tgt := 11) E dX12_when_5 (by decide) (fun c3 => ?_) (fun c3 => ?_)
  · replace hv := ite_f hv c3
    refine y_iload_n E dX12_when_11 2 rfl ?_
    refine y_calli E (y_runS E (rest := []) (kX12_isCell l w E.2.2.1 u2 a2 _ hv) (y_cwS 1 E.1.2.2.2.2 wm_482 wm_487 wm_479 wm_488 (by decide +kernel) (yRm_le (by decide) (by decide))) rfl rfl (Nat.le_of_ble_eq_true rfl) dX12_when_12) (fun v4 u5 hk => ?_)
    clear hv
    have hv := hk
    clear hk
    refine y_if_ne (tgt := 21) E dX12_when_15 (by decide) (fun c6 => ?_) (fun c6 => ?_)
    · replace hv := ite_f hv c6
      refine y_aload_n E dX12_when_21 0 rfl ?_
      refine y_iload_n E dX12_when_22 1 rfl ?_
      refine y_callv E (y_runV E (rest := []) (kX12_begins l w E.2.2.1 u5 a1 _ hv) (y_cwV 1 E.1.2.2.2.2 wm_598 wm_603 wm_604 wm_479 wm_605 (by decide +kernel) (yRm_le (by decide) (by decide))) (Nat.lt_of_lt_of_le (show 0 < 1 by decide) (by decide)) (mc_X12 (by decide) (by decide)) rfl rfl rfl (Nat.le_of_ble_eq_true rfl) dX12_when_23) (fun u8 hk => ?_)
      clear hv
      have hv := hk
      clear hk
      refine y_aload_n E dX12_when_26 0 rfl ?_
      refine y_iload_n E dX12_when_27 1 rfl ?_
      refine y_iload_n E dX12_when_28 2 rfl ?_
      refine y_calli E (y_runV E (rest := []) (kX12_first0 l w E.2.2.1 u8 a1 a2 _ hv) (y_cwV 2 E.1.2.2.2.2 wm_613 wm_614 wm_615 wm_479 wm_616 (by decide +kernel) (yRm_le (by decide) (by decide))) (Nat.lt_of_lt_of_le (show 0 < 1 by decide) (by decide)) (mc_X12 (by decide) (by decide)) rfl rfl rfl (Nat.le_of_ble_eq_true rfl) dX12_when_29) (fun v9 u10 hk => ?_)
      clear hv
      have hv := hk
      clear hk
      exact y_iret E dX12_when_32 hv
    · replace hv := ite_t hv c6
      refine y_bipush (v := (-7)) E dX12_when_18 (by decide) ?_
      exact y_iret E dX12_when_20 hv
  · replace hv := ite_t hv c3
    refine y_bipush (v := (-5)) E dX12_when_8 (by decide) ?_
    exact y_iret E dX12_when_10 hv
theorem dX12_meet_0 : decode cX12_meet 0 = .ok (.aload_n 0, 1) := by decide +kernel
theorem dX12_meet_1 : decode cX12_meet 1 = .ok (.iload_n 1, 1) := by decide +kernel
theorem dX12_meet_2 : decode cX12_meet 2 = .ok (.invokevirtual 178, 3) := by decide +kernel
theorem dX12_meet_5 : decode cX12_meet 5 = .ok (.ifCond .eq 16, 3) := by decide +kernel
theorem dX12_meet_8 : decode cX12_meet 8 = .ok (.aload_n 0, 1) := by decide +kernel
theorem dX12_meet_9 : decode cX12_meet 9 = .ok (.iload_n 2, 1) := by decide +kernel
theorem dX12_meet_10 : decode cX12_meet 10 = .ok (.invokevirtual 178, 3) := by decide +kernel
theorem dX12_meet_13 : decode cX12_meet 13 = .ok (.ifCond .eq 8, 3) := by decide +kernel
theorem dX12_meet_16 : decode cX12_meet 16 = .ok (.iload_n 1, 1) := by decide +kernel
theorem dX12_meet_17 : decode cX12_meet 17 = .ok (.iload_n 2, 1) := by decide +kernel
theorem dX12_meet_18 : decode cX12_meet 18 = .ok (.if_icmp .ne 6, 3) := by decide +kernel
theorem dX12_meet_21 : decode cX12_meet 21 = .ok (.bipush (-5), 2) := by decide +kernel
theorem dX12_meet_23 : decode cX12_meet 23 = .ok (.ireturn, 1) := by decide +kernel
theorem dX12_meet_24 : decode cX12_meet 24 = .ok (.iconst 0, 1) := by decide +kernel
theorem dX12_meet_25 : decode cX12_meet 25 = .ok (.istore_n 3, 1) := by decide +kernel
theorem dX12_meet_26 : decode cX12_meet 26 = .ok (.iload_n 3, 1) := by decide +kernel
theorem dX12_meet_27 : decode cX12_meet 27 = .ok (.bipush 40, 2) := by decide +kernel
theorem dX12_meet_29 : decode cX12_meet 29 = .ok (.if_icmp .gt 30, 3) := by decide +kernel
theorem dX12_meet_32 : decode cX12_meet 32 = .ok (.aload_n 0, 1) := by decide +kernel
theorem dX12_meet_33 : decode cX12_meet 33 = .ok (.iload_n 1, 1) := by decide +kernel
theorem dX12_meet_34 : decode cX12_meet 34 = .ok (.iload_n 3, 1) := by decide +kernel
theorem dX12_meet_35 : decode cX12_meet 35 = .ok (.invokevirtual 209, 3) := by decide +kernel
theorem dX12_meet_38 : decode cX12_meet 38 = .ok (.istore 4, 2) := by decide +kernel
theorem dX12_meet_40 : decode cX12_meet 40 = .ok (.iload 4, 2) := by decide +kernel
theorem dX12_meet_42 : decode cX12_meet 42 = .ok (.aload_n 0, 1) := by decide +kernel
theorem dX12_meet_43 : decode cX12_meet 43 = .ok (.iload_n 2, 1) := by decide +kernel
theorem dX12_meet_44 : decode cX12_meet 44 = .ok (.iload_n 3, 1) := by decide +kernel
theorem dX12_meet_45 : decode cX12_meet 45 = .ok (.invokevirtual 209, 3) := by decide +kernel
theorem dX12_meet_48 : decode cX12_meet 48 = .ok (.if_icmp .ne 5, 3) := by decide +kernel
theorem dX12_meet_51 : decode cX12_meet 51 = .ok (.iload_n 3, 1) := by decide +kernel
theorem dX12_meet_52 : decode cX12_meet 52 = .ok (.ireturn, 1) := by decide +kernel
theorem dX12_meet_53 : decode cX12_meet 53 = .ok (.iinc 3 1, 3) := by decide +kernel
theorem dX12_meet_56 : decode cX12_meet 56 = .ok (.goto (-30), 3) := by decide +kernel
theorem dX12_meet_59 : decode cX12_meet 59 = .ok (.iconst (-1), 1) := by decide +kernel
theorem dX12_meet_60 : decode cX12_meet 60 = .ok (.ireturn, 1) := by decide +kernel
set_option maxRecDepth 100000 in
set_option maxHeartbeats 4000000 in
theorem kX12_meet (l : Launch) (w : wT) (hw : yOk w 20) (σ : Hp) (a1 : Int32) (a2 : Int32) (K : Int32 → Hp → Prop) (hv : VX12_meet K σ a1 a2) : yMet l w mcf 20 yX12_meet cX12_meet 5 (some .int) 7 [.ref (w.1 0), .int a1, .int a2] σ (yQi w mcf 20 K) := by
  unfold VX12_meet at hv
  refine y_start (lv0 := [(0, .ref (w.1 0)), (1, .int a1), (2, .int a2)]) (by decide +kernel) (own := RX12) rfl hw (Nat.le_of_ble_eq_true rfl) rfl (fun p e s m below meth c A E => ?_)
  have hL26 : ∀ (n26 : Nat) (σ : Hp) (l1 : Int32) (l2 : Int32) (l3 : Int32), VX12_meet_L26 K n26 σ l1 l2 l3 → YY p l e (yRm 7) s m [.ref (w.1 0), .int a1, .int a2].toArray below meth c w mcf 20 A (MQ below (yQi w mcf 20 K A) [.ref (w.1 0), .int a1, .int a2].toArray s 0 0 A) 5 σ 26 [(0, .ref (w.1 0)), (1, .int l1), (2, .int l2), (3, .int l3)] [] := by
    intro n26
    induction n26 with
    | zero => exact fun _ _ _ _ hv => (by unfold VX12_meet_L26 at hv; exact hv.elim)
    | succ n26 ih26 =>
      intro σ l1 l2 l3 hv
      unfold VX12_meet_L26 at hv
      refine y_iload_n E dX12_meet_26 3 rfl ?_
      refine y_bipush (v := 40) E dX12_meet_27 (by decide) ?_
      refine y_icmp_gt (tgt := 59) E dX12_meet_29 (by decide) (fun c8 => ?_) (fun c8 => ?_)
      · replace hv := ite_t hv c8
        refine y_iconst (v := (-1)) E dX12_meet_59 (by decide) ?_
        exact y_iret E dX12_meet_60 hv
      · replace hv := ite_f hv c8
        refine y_aload_n E dX12_meet_32 0 rfl ?_
        refine y_iload_n E dX12_meet_33 1 rfl ?_
        refine y_iload_n E dX12_meet_34 3 rfl ?_
        refine y_calli E (y_runV E (rest := []) (kX12_cellBehind l w E.2.2.1 σ l1 l3 _ hv) (y_cwV 2 E.1.2.2.2.2 wm_607 wm_608 wm_609 wm_479 wm_610 (by decide +kernel) (yRm_le (by decide) (by decide))) (Nat.lt_of_lt_of_le (show 0 < 1 by decide) (by decide)) (mc_X12 (by decide) (by decide)) rfl rfl rfl (Nat.le_of_ble_eq_true rfl) dX12_meet_35) (fun v9 u10 hk => ?_)
        clear hv
        have hv := hk
        clear hk
        refine y_istore (lv' := [(4, .int v9), (0, .ref (w.1 0)), (1, .int l1), (2, .int l2), (3, .int l3)]) E dX12_meet_38 (by decide) rfl ?_
        refine y_iload E dX12_meet_40 0 rfl ?_
        refine y_aload_n E dX12_meet_42 1 rfl ?_
        refine y_iload_n E dX12_meet_43 3 rfl ?_
        refine y_iload_n E dX12_meet_44 4 rfl ?_
        refine y_calli E (y_runV E (rest := [.int v9]) (kX12_cellBehind l w E.2.2.1 u10 l2 l3 _ hv) (y_cwV 2 E.1.2.2.2.2 wm_607 wm_608 wm_609 wm_479 wm_610 (by decide +kernel) (yRm_le (by decide) (by decide))) (Nat.lt_of_lt_of_le (show 0 < 1 by decide) (by decide)) (mc_X12 (by decide) (by decide)) rfl rfl rfl (Nat.le_of_ble_eq_true rfl) dX12_meet_45) (fun v11 u12 hk => ?_)
        clear hv
        have hv := hk
        clear hk
        refine y_icmp_ne (tgt := 53) E dX12_meet_48 (by decide) (fun c13 => ?_) (fun c13 => ?_)
        · replace hv := ite_f hv c13
          obtain ⟨x14, hx14⟩ : ∃ z : Int32, z = l3 + 1 := ⟨_, rfl⟩
          replace hv := hv x14 hx14
          refine y_iinc (v := x14) (lv' := [(3, .int x14), (4, .int v9), (0, .ref (w.1 0)), (1, .int l1), (2, .int l2)]) E dX12_meet_53 4 rfl (by rw [hx14]; rfl) (by decide) rfl ?_
          refine y_goto (tgt := 26) E dX12_meet_56 (by decide) ?_
          refine y_lv (lv' := [(0, .ref (w.1 0)), (1, .int l1), (2, .int l2), (3, .int x14)]) [2, 3, 4, 0] rfl ?_
          exact ih26 u12 l1 l2 x14 hv
        · replace hv := ite_t hv c13
          refine y_iload_n E dX12_meet_51 4 rfl ?_
          exact y_iret E dX12_meet_52 hv
  refine y_aload_n E dX12_meet_0 0 rfl ?_
  refine y_iload_n E dX12_meet_1 1 rfl ?_
  refine y_calli E (y_runV E (rest := []) (kX12_isThing l w E.2.2.1 σ a1 _ hv) (y_cwV 1 E.1.2.2.2.2 wm_577 wm_578 wm_579 wm_479 wm_580 (by decide +kernel) (yRm_le (by decide) (by decide))) (Nat.lt_of_lt_of_le (show 0 < 1 by decide) (by decide)) (mc_X12 (by decide) (by decide)) rfl rfl rfl (Nat.le_of_ble_eq_true rfl) dX12_meet_2) (fun v1 u2 hk => ?_)
  clear hv
  have hv := hk
  clear hk
  refine y_if_eq (tgt := 21) E dX12_meet_5 (by decide) (fun c3 => ?_) (fun c3 => ?_)
  · replace hv := ite_t hv c3
    refine y_bipush (v := (-5)) E dX12_meet_21 (by decide) ?_
    exact y_iret E dX12_meet_23 hv
  · replace hv := ite_f hv c3
    refine y_aload_n E dX12_meet_8 0 rfl ?_
    refine y_iload_n E dX12_meet_9 2 rfl ?_
    refine y_calli E (y_runV E (rest := []) (kX12_isThing l w E.2.2.1 u2 a2 _ hv) (y_cwV 1 E.1.2.2.2.2 wm_577 wm_578 wm_579 wm_479 wm_580 (by decide +kernel) (yRm_le (by decide) (by decide))) (Nat.lt_of_lt_of_le (show 0 < 1 by decide) (by decide)) (mc_X12 (by decide) (by decide)) rfl rfl rfl (Nat.le_of_ble_eq_true rfl) dX12_meet_10) (fun v4 u5 hk => ?_)
    clear hv
    have hv := hk
    clear hk
    refine y_if_eq (tgt := 21) E dX12_meet_13 (by decide) (fun c6 => ?_) (fun c6 => ?_)
    · replace hv := ite_t hv c6
      refine y_bipush (v := (-5)) E dX12_meet_21 (by decide) ?_
      exact y_iret E dX12_meet_23 hv
    · replace hv := ite_f hv c6
      refine y_iload_n E dX12_meet_16 1 rfl ?_
      refine y_iload_n E dX12_meet_17 2 rfl ?_
      refine y_icmp_ne (tgt := 24) E dX12_meet_18 (by decide) (fun c7 => ?_) (fun c7 => ?_)
      · replace hv := ite_f hv c7
        refine y_iconst (v := 0) E dX12_meet_24 (by decide) ?_
        refine y_istore_n (lv' := [(3, .int 0), (0, .ref (w.1 0)), (1, .int a1), (2, .int a2)]) E dX12_meet_25 (by decide) rfl ?_
        refine y_lv (lv' := [(0, .ref (w.1 0)), (1, .int a1), (2, .int a2), (3, .int 0)]) [1, 2, 3, 0] rfl ?_
        obtain ⟨n0, hv⟩ := hv
        exact hL26 n0 u5 a1 a2 0 hv
      · replace hv := ite_t hv c7
        refine y_bipush (v := (-5)) E dX12_meet_21 (by decide) ?_
        exact y_iret E dX12_meet_23 hv
theorem dX12_inside_0 : decode cX12_inside 0 = .ok (.iload_n 1, 1) := by decide +kernel
theorem dX12_inside_1 : decode cX12_inside 1 = .ok (.invokestatic 206, 3) := by decide +kernel
theorem dX12_inside_4 : decode cX12_inside 4 = .ok (.ifCond .ne 6, 3) := by decide +kernel
theorem dX12_inside_7 : decode cX12_inside 7 = .ok (.bipush (-5), 2) := by decide +kernel
theorem dX12_inside_9 : decode cX12_inside 9 = .ok (.ireturn, 1) := by decide +kernel
theorem dX12_inside_10 : decode cX12_inside 10 = .ok (.iload_n 2, 1) := by decide +kernel
theorem dX12_inside_11 : decode cX12_inside 11 = .ok (.invokestatic 79, 3) := by decide +kernel
theorem dX12_inside_14 : decode cX12_inside 14 = .ok (.ifCond .ne 6, 3) := by decide +kernel
theorem dX12_inside_17 : decode cX12_inside 17 = .ok (.bipush (-7), 2) := by decide +kernel
theorem dX12_inside_19 : decode cX12_inside 19 = .ok (.ireturn, 1) := by decide +kernel
theorem dX12_inside_20 : decode cX12_inside 20 = .ok (.iconst 0, 1) := by decide +kernel
theorem dX12_inside_21 : decode cX12_inside 21 = .ok (.istore_n 3, 1) := by decide +kernel
theorem dX12_inside_22 : decode cX12_inside 22 = .ok (.iconst 0, 1) := by decide +kernel
theorem dX12_inside_23 : decode cX12_inside 23 = .ok (.istore 4, 2) := by decide +kernel
theorem dX12_inside_25 : decode cX12_inside 25 = .ok (.iload 4, 2) := by decide +kernel
theorem dX12_inside_27 : decode cX12_inside 27 = .ok (.aload_n 0, 1) := by decide +kernel
theorem dX12_inside_28 : decode cX12_inside 28 = .ok (.getfield 87, 3) := by decide +kernel
theorem dX12_inside_31 : decode cX12_inside 31 = .ok (.if_icmp .ge 31, 3) := by decide +kernel
theorem dX12_inside_34 : decode cX12_inside 34 = .ok (.iload_n 3, 1) := by decide +kernel
theorem dX12_inside_35 : decode cX12_inside 35 = .ok (.aload_n 0, 1) := by decide +kernel
theorem dX12_inside_36 : decode cX12_inside 36 = .ok (.iload 4, 2) := by decide +kernel
theorem dX12_inside_38 : decode cX12_inside 38 = .ok (.iload_n 1, 1) := by decide +kernel
theorem dX12_inside_39 : decode cX12_inside 39 = .ok (.invokevirtual 209, 3) := by decide +kernel
theorem dX12_inside_42 : decode cX12_inside 42 = .ok (.iload_n 2, 1) := by decide +kernel
theorem dX12_inside_43 : decode cX12_inside 43 = .ok (.if_icmp .ne 10, 3) := by decide +kernel
theorem dX12_inside_46 : decode cX12_inside 46 = .ok (.iconst 1, 1) := by decide +kernel
theorem dX12_inside_47 : decode cX12_inside 47 = .ok (.iload 4, 2) := by decide +kernel
theorem dX12_inside_49 : decode cX12_inside 49 = .ok (.ishl, 1) := by decide +kernel
theorem dX12_inside_50 : decode cX12_inside 50 = .ok (.goto 4, 3) := by decide +kernel
theorem dX12_inside_53 : decode cX12_inside 53 = .ok (.iconst 0, 1) := by decide +kernel
theorem dX12_inside_54 : decode cX12_inside 54 = .ok (.ior, 1) := by decide +kernel
theorem dX12_inside_55 : decode cX12_inside 55 = .ok (.istore_n 3, 1) := by decide +kernel
theorem dX12_inside_56 : decode cX12_inside 56 = .ok (.iinc 4 1, 3) := by decide +kernel
theorem dX12_inside_59 : decode cX12_inside 59 = .ok (.goto (-34), 3) := by decide +kernel
theorem dX12_inside_62 : decode cX12_inside 62 = .ok (.iload_n 3, 1) := by decide +kernel
theorem dX12_inside_63 : decode cX12_inside 63 = .ok (.ireturn, 1) := by decide +kernel
set_option maxRecDepth 100000 in
set_option maxHeartbeats 4000000 in
theorem kX12_inside (l : Launch) (w : wT) (hw : yOk w 20) (σ : Hp) (a1 : Int32) (a2 : Int32) (K : Int32 → Hp → Prop) (hv : VX12_inside K σ a1 a2) : yMet l w mcf 20 yX12_inside cX12_inside 5 (some .int) 7 [.ref (w.1 0), .int a1, .int a2] σ (yQi w mcf 20 K) := by
  unfold VX12_inside at hv
  refine y_start (lv0 := [(0, .ref (w.1 0)), (1, .int a1), (2, .int a2)]) (by decide +kernel) (own := RX12) rfl hw (Nat.le_of_ble_eq_true rfl) rfl (fun p e s m below meth c A E => ?_)
  have hL25 : ∀ (n25 : Nat) (σ : Hp) (l1 : Int32) (l2 : Int32) (l3 : Int32) (l4 : Int32), VX12_inside_L25 K n25 σ l1 l2 l3 l4 → YY p l e (yRm 7) s m [.ref (w.1 0), .int a1, .int a2].toArray below meth c w mcf 20 A (MQ below (yQi w mcf 20 K A) [.ref (w.1 0), .int a1, .int a2].toArray s 0 0 A) 5 σ 25 [(0, .ref (w.1 0)), (1, .int l1), (2, .int l2), (3, .int l3), (4, .int l4)] [] := by
    intro n25
    induction n25 with
    | zero => exact fun _ _ _ _ _ hv => (by unfold VX12_inside_L25 at hv; exact hv.elim)
    | succ n25 ih25 =>
      intro σ l1 l2 l3 l4 hv
      unfold VX12_inside_L25 at hv
      refine y_iload E dX12_inside_25 4 rfl ?_
      refine y_aload_n E dX12_inside_27 0 rfl ?_
      refine gf_X12_2 E (by decide) (by decide) wm_489 dX12_inside_28 ?_
      refine y_icmp_ge (tgt := 62) E dX12_inside_31 (by decide) (fun c7 => ?_) (fun c7 => ?_)
      · replace hv := ite_t hv c7
        refine y_iload_n E dX12_inside_62 3 rfl ?_
        exact y_iret E dX12_inside_63 hv
      · replace hv := ite_f hv c7
        refine y_iload_n E dX12_inside_34 3 rfl ?_
        refine y_aload_n E dX12_inside_35 0 rfl ?_
        refine y_iload E dX12_inside_36 4 rfl ?_
        refine y_iload_n E dX12_inside_38 1 rfl ?_
        refine y_calli E (y_runV E (rest := [.int l3]) (kX12_cellBehind l w E.2.2.1 σ l4 l1 _ hv) (y_cwV 2 E.1.2.2.2.2 wm_607 wm_608 wm_609 wm_479 wm_610 (by decide +kernel) (yRm_le (by decide) (by decide))) (Nat.lt_of_lt_of_le (show 0 < 1 by decide) (by decide)) (mc_X12 (by decide) (by decide)) rfl rfl rfl (Nat.le_of_ble_eq_true rfl) dX12_inside_39) (fun v8 u9 hk => ?_)
        clear hv
        have hv := hk
        clear hk
        refine y_iload_n E dX12_inside_42 2 rfl ?_
        refine y_icmp_ne (tgt := 53) E dX12_inside_43 (by decide) (fun c10 => ?_) (fun c10 => ?_)
        · replace hv := ite_f hv c10
          refine y_iconst (v := 0) E dX12_inside_53 (by decide) ?_
          refine y_ior E dX12_inside_54 ?_
          refine y_nmi (fun x11 hx11 => ?_)
          replace hv := hv x11 hx11
          refine y_istore_n (lv' := [(3, .int x11), (0, .ref (w.1 0)), (1, .int l1), (2, .int l2), (4, .int l4)]) E dX12_inside_55 (by decide) rfl ?_
          obtain ⟨x12, hx12⟩ : ∃ z : Int32, z = l4 + 1 := ⟨_, rfl⟩
          replace hv := hv x12 hx12
          refine y_iinc (v := x12) (lv' := [(4, .int x12), (3, .int x11), (0, .ref (w.1 0)), (1, .int l1), (2, .int l2)]) E dX12_inside_56 4 rfl (by rw [hx12]; rfl) (by decide) rfl ?_
          refine y_goto (tgt := 25) E dX12_inside_59 (by decide) ?_
          refine y_lv (lv' := [(0, .ref (w.1 0)), (1, .int l1), (2, .int l2), (3, .int x11), (4, .int x12)]) [2, 3, 4, 1, 0] rfl ?_
          exact ih25 u9 l1 l2 x11 x12 hv
        · replace hv := ite_t hv c10
          refine y_iconst (v := 1) E dX12_inside_46 (by decide) ?_
          refine y_iload E dX12_inside_47 4 rfl ?_
          refine y_ishl E dX12_inside_49 ?_
          refine y_goto (tgt := 54) E dX12_inside_50 (by decide) ?_
          refine y_ior E dX12_inside_54 ?_
          refine y_nmi (fun x13 hx13 => ?_)
          replace hv := hv x13 hx13
          refine y_istore_n (lv' := [(3, .int x13), (0, .ref (w.1 0)), (1, .int l1), (2, .int l2), (4, .int l4)]) E dX12_inside_55 (by decide) rfl ?_
          obtain ⟨x14, hx14⟩ : ∃ z : Int32, z = l4 + 1 := ⟨_, rfl⟩
          replace hv := hv x14 hx14
          refine y_iinc (v := x14) (lv' := [(4, .int x14), (3, .int x13), (0, .ref (w.1 0)), (1, .int l1), (2, .int l2)]) E dX12_inside_56 4 rfl (by rw [hx14]; rfl) (by decide) rfl ?_
          refine y_goto (tgt := 25) E dX12_inside_59 (by decide) ?_
          refine y_lv (lv' := [(0, .ref (w.1 0)), (1, .int l1), (2, .int l2), (3, .int x13), (4, .int x14)]) [2, 3, 4, 1, 0] rfl ?_
          exact ih25 u9 l1 l2 x13 x14 hv
  refine y_iload_n E dX12_inside_0 1 rfl ?_
  refine y_calli E (y_runS E (rest := []) (kX12_areSteps l w E.2.2.1 σ a1 _ hv) (y_cwS 1 E.1.2.2.2.2 wm_606 wm_611 wm_479 wm_612 (by decide +kernel) (yRm_le (by decide) (by decide))) rfl rfl (Nat.le_of_ble_eq_true rfl) dX12_inside_1) (fun v1 u2 hk => ?_)
  clear hv
  have hv := hk
  clear hk
  refine y_if_ne (tgt := 10) E dX12_inside_4 (by decide) (fun c3 => ?_) (fun c3 => ?_)
  · replace hv := ite_f hv c3
    refine y_iload_n E dX12_inside_10 2 rfl ?_
    refine y_calli E (y_runS E (rest := []) (kX12_isCell l w E.2.2.1 u2 a2 _ hv) (y_cwS 1 E.1.2.2.2.2 wm_482 wm_487 wm_479 wm_488 (by decide +kernel) (yRm_le (by decide) (by decide))) rfl rfl (Nat.le_of_ble_eq_true rfl) dX12_inside_11) (fun v4 u5 hk => ?_)
    clear hv
    have hv := hk
    clear hk
    refine y_if_ne (tgt := 20) E dX12_inside_14 (by decide) (fun c6 => ?_) (fun c6 => ?_)
    · replace hv := ite_f hv c6
      refine y_iconst (v := 0) E dX12_inside_20 (by decide) ?_
      refine y_istore_n (lv' := [(3, .int 0), (0, .ref (w.1 0)), (1, .int a1), (2, .int a2)]) E dX12_inside_21 (by decide) rfl ?_
      refine y_iconst (v := 0) E dX12_inside_22 (by decide) ?_
      refine y_istore (lv' := [(4, .int 0), (3, .int 0), (0, .ref (w.1 0)), (1, .int a1), (2, .int a2)]) E dX12_inside_23 (by decide) rfl ?_
      refine y_lv (lv' := [(0, .ref (w.1 0)), (1, .int a1), (2, .int a2), (3, .int 0), (4, .int 0)]) [2, 3, 4, 1, 0] rfl ?_
      obtain ⟨n0, hv⟩ := hv
      exact hL25 n0 u5 a1 a2 0 0 hv
    · replace hv := ite_t hv c6
      refine y_bipush (v := (-7)) E dX12_inside_17 (by decide) ?_
      exact y_iret E dX12_inside_19 hv
  · replace hv := ite_t hv c3
    refine y_bipush (v := (-5)) E dX12_inside_7 (by decide) ?_
    exact y_iret E dX12_inside_9 hv
theorem dX12_spreads_0 : decode cX12_spreads 0 = .ok (.iconst 0, 1) := by decide +kernel
theorem dX12_spreads_1 : decode cX12_spreads 1 = .ok (.istore_n 2, 1) := by decide +kernel
theorem dX12_spreads_2 : decode cX12_spreads 2 = .ok (.iload_n 2, 1) := by decide +kernel
theorem dX12_spreads_3 : decode cX12_spreads 3 = .ok (.bipush 30, 2) := by decide +kernel
theorem dX12_spreads_5 : decode cX12_spreads 5 = .ok (.if_icmp .ge 25, 3) := by decide +kernel
theorem dX12_spreads_8 : decode cX12_spreads 8 = .ok (.aload_n 0, 1) := by decide +kernel
theorem dX12_spreads_9 : decode cX12_spreads 9 = .ok (.getfield 61, 3) := by decide +kernel
theorem dX12_spreads_12 : decode cX12_spreads 12 = .ok (.iload_n 2, 1) := by decide +kernel
theorem dX12_spreads_13 : decode cX12_spreads 13 = .ok (.iload_n 2, 1) := by decide +kernel
theorem dX12_spreads_14 : decode cX12_spreads 14 = .ok (.iload_n 1, 1) := by decide +kernel
theorem dX12_spreads_15 : decode cX12_spreads 15 = .ok (.if_icmp .ne 7, 3) := by decide +kernel
theorem dX12_spreads_18 : decode cX12_spreads 18 = .ok (.iconst 0, 1) := by decide +kernel
theorem dX12_spreads_19 : decode cX12_spreads 19 = .ok (.goto 4, 3) := by decide +kernel
theorem dX12_spreads_22 : decode cX12_spreads 22 = .ok (.iconst (-1), 1) := by decide +kernel
theorem dX12_spreads_23 : decode cX12_spreads 23 = .ok (.iastore, 1) := by decide +kernel
theorem dX12_spreads_24 : decode cX12_spreads 24 = .ok (.iinc 2 1, 3) := by decide +kernel
theorem dX12_spreads_27 : decode cX12_spreads 27 = .ok (.goto (-25), 3) := by decide +kernel
theorem dX12_spreads_30 : decode cX12_spreads 30 = .ok (.iconst 0, 1) := by decide +kernel
theorem dX12_spreads_31 : decode cX12_spreads 31 = .ok (.istore_n 2, 1) := by decide +kernel
theorem dX12_spreads_32 : decode cX12_spreads 32 = .ok (.iload_n 2, 1) := by decide +kernel
theorem dX12_spreads_33 : decode cX12_spreads 33 = .ok (.bipush 30, 2) := by decide +kernel
theorem dX12_spreads_35 : decode cX12_spreads 35 = .ok (.if_icmp .ge 87, 3) := by decide +kernel
theorem dX12_spreads_38 : decode cX12_spreads 38 = .ok (.iconst 0, 1) := by decide +kernel
theorem dX12_spreads_39 : decode cX12_spreads 39 = .ok (.istore_n 3, 1) := by decide +kernel
theorem dX12_spreads_40 : decode cX12_spreads 40 = .ok (.iload_n 3, 1) := by decide +kernel
theorem dX12_spreads_41 : decode cX12_spreads 41 = .ok (.bipush 120, 2) := by decide +kernel
theorem dX12_spreads_43 : decode cX12_spreads 43 = .ok (.if_icmp .ge 73, 3) := by decide +kernel
theorem dX12_spreads_46 : decode cX12_spreads 46 = .ok (.aload_n 0, 1) := by decide +kernel
theorem dX12_spreads_47 : decode cX12_spreads 47 = .ok (.getfield 61, 3) := by decide +kernel
theorem dX12_spreads_50 : decode cX12_spreads 50 = .ok (.iload_n 3, 1) := by decide +kernel
theorem dX12_spreads_51 : decode cX12_spreads 51 = .ok (.iconst 4, 1) := by decide +kernel
theorem dX12_spreads_52 : decode cX12_spreads 52 = .ok (.idiv, 1) := by decide +kernel
theorem dX12_spreads_53 : decode cX12_spreads 53 = .ok (.iaload, 1) := by decide +kernel
theorem dX12_spreads_54 : decode cX12_spreads 54 = .ok (.iload_n 2, 1) := by decide +kernel
theorem dX12_spreads_55 : decode cX12_spreads 55 = .ok (.if_icmp .ne 15, 3) := by decide +kernel
theorem dX12_spreads_58 : decode cX12_spreads 58 = .ok (.iload_n 3, 1) := by decide +kernel
theorem dX12_spreads_59 : decode cX12_spreads 59 = .ok (.iconst 4, 1) := by decide +kernel
theorem dX12_spreads_60 : decode cX12_spreads 60 = .ok (.idiv, 1) := by decide +kernel
theorem dX12_spreads_61 : decode cX12_spreads 61 = .ok (.iload_n 3, 1) := by decide +kernel
theorem dX12_spreads_62 : decode cX12_spreads 62 = .ok (.iconst 4, 1) := by decide +kernel
theorem dX12_spreads_63 : decode cX12_spreads 63 = .ok (.irem, 1) := by decide +kernel
theorem dX12_spreads_64 : decode cX12_spreads 64 = .ok (.invokestatic 190, 3) := by decide +kernel
theorem dX12_spreads_67 : decode cX12_spreads 67 = .ok (.goto 4, 3) := by decide +kernel
theorem dX12_spreads_70 : decode cX12_spreads 70 = .ok (.iconst (-1), 1) := by decide +kernel
theorem dX12_spreads_71 : decode cX12_spreads 71 = .ok (.istore 4, 2) := by decide +kernel
theorem dX12_spreads_73 : decode cX12_spreads 73 = .ok (.iload 4, 2) := by decide +kernel
theorem dX12_spreads_75 : decode cX12_spreads 75 = .ok (.iconst (-1), 1) := by decide +kernel
theorem dX12_spreads_76 : decode cX12_spreads 76 = .ok (.if_icmp .eq 34, 3) := by decide +kernel
theorem dX12_spreads_79 : decode cX12_spreads 79 = .ok (.aload_n 0, 1) := by decide +kernel
theorem dX12_spreads_80 : decode cX12_spreads 80 = .ok (.iconst 0, 1) := by decide +kernel
theorem dX12_spreads_81 : decode cX12_spreads 81 = .ok (.iload 4, 2) := by decide +kernel
theorem dX12_spreads_83 : decode cX12_spreads 83 = .ok (.invokevirtual 83, 3) := by decide +kernel
theorem dX12_spreads_86 : decode cX12_spreads 86 = .ok (.ifCond .ne 24, 3) := by decide +kernel
theorem dX12_spreads_89 : decode cX12_spreads 89 = .ok (.aload_n 0, 1) := by decide +kernel
theorem dX12_spreads_90 : decode cX12_spreads 90 = .ok (.getfield 61, 3) := by decide +kernel
theorem dX12_spreads_93 : decode cX12_spreads 93 = .ok (.iload 4, 2) := by decide +kernel
theorem dX12_spreads_95 : decode cX12_spreads 95 = .ok (.iaload, 1) := by decide +kernel
theorem dX12_spreads_96 : decode cX12_spreads 96 = .ok (.iconst (-1), 1) := by decide +kernel
theorem dX12_spreads_97 : decode cX12_spreads 97 = .ok (.if_icmp .ne 13, 3) := by decide +kernel
theorem dX12_spreads_100 : decode cX12_spreads 100 = .ok (.aload_n 0, 1) := by decide +kernel
theorem dX12_spreads_101 : decode cX12_spreads 101 = .ok (.getfield 61, 3) := by decide +kernel
theorem dX12_spreads_104 : decode cX12_spreads 104 = .ok (.iload 4, 2) := by decide +kernel
theorem dX12_spreads_106 : decode cX12_spreads 106 = .ok (.iload_n 2, 1) := by decide +kernel
theorem dX12_spreads_107 : decode cX12_spreads 107 = .ok (.iconst 1, 1) := by decide +kernel
theorem dX12_spreads_108 : decode cX12_spreads 108 = .ok (.iadd, 1) := by decide +kernel
theorem dX12_spreads_109 : decode cX12_spreads 109 = .ok (.iastore, 1) := by decide +kernel
theorem dX12_spreads_110 : decode cX12_spreads 110 = .ok (.iinc 3 1, 3) := by decide +kernel
theorem dX12_spreads_113 : decode cX12_spreads 113 = .ok (.goto (-73), 3) := by decide +kernel
theorem dX12_spreads_116 : decode cX12_spreads 116 = .ok (.iinc 2 1, 3) := by decide +kernel
theorem dX12_spreads_119 : decode cX12_spreads 119 = .ok (.goto (-87), 3) := by decide +kernel
theorem dX12_spreads_122 : decode cX12_spreads 122 = .ok (.return_, 1) := by decide +kernel
set_option maxRecDepth 100000 in
set_option maxHeartbeats 4000000 in
theorem kX12_spreads (l : Launch) (w : wT) (hw : yOk w 20) (σ : Hp) (a1 : Int32) (K : Hp → Prop) (hv : VX12_spreads K σ a1) : yMet l w mcf 20 yX12_spreads cX12_spreads 5 none 3 [.ref (w.1 0), .int a1] σ (yQv w mcf 20 K) := by
  unfold VX12_spreads at hv
  refine y_start (lv0 := [(0, .ref (w.1 0)), (1, .int a1)]) (by decide +kernel) (own := RX12) rfl hw (Nat.le_of_ble_eq_true rfl) rfl (fun p e s m below meth c A E => ?_)
  have hL32 : ∀ (n32 : Nat) (σ : Hp) (l2 : Int32), VX12_spreads_L32 K n32 σ l2 → YY p l e (yRm 3) s m [.ref (w.1 0), .int a1].toArray below meth c w mcf 20 A (MQ below (yQv w mcf 20 K A) [.ref (w.1 0), .int a1].toArray s 0 0 A) 5 σ 32 [(0, .ref (w.1 0)), (2, .int l2)] [] := by
    intro n32
    induction n32 with
    | zero => exact fun _ _ hv => (by unfold VX12_spreads_L32 at hv; exact hv.elim)
    | succ n32 ih32 =>
      have hL40 : ∀ (n40 : Nat) (σ : Hp) (l2 : Int32) (l3 : Int32), VX12_spreads_L40 K (VX12_spreads_L32 K n32) n40 σ l2 l3 → YY p l e (yRm 3) s m [.ref (w.1 0), .int a1].toArray below meth c w mcf 20 A (MQ below (yQv w mcf 20 K A) [.ref (w.1 0), .int a1].toArray s 0 0 A) 5 σ 40 [(0, .ref (w.1 0)), (2, .int l2), (3, .int l3)] [] := by
        intro n40
        induction n40 with
        | zero => exact fun _ _ _ hv => (by unfold VX12_spreads_L40 at hv; exact hv.elim)
        | succ n40 ih40 =>
          have hb71 : ∀ (σ : Hp) (l2 : Int32) (l3 : Int32) (s0 : Int32), VX12_spreads_b71 K (VX12_spreads_L32 K n32) (VX12_spreads_L40 K (VX12_spreads_L32 K n32) n40) σ l2 l3 s0 → YY p l e (yRm 3) s m [.ref (w.1 0), .int a1].toArray below meth c w mcf 20 A (MQ below (yQv w mcf 20 K A) [.ref (w.1 0), .int a1].toArray s 0 0 A) 5 σ 71 [(0, .ref (w.1 0)), (2, .int l2), (3, .int l3)] [.int s0] := by
            intro σ l2 l3 s0 hv
            unfold VX12_spreads_b71 at hv
            refine y_istore (lv' := [(4, .int s0), (0, .ref (w.1 0)), (2, .int l2), (3, .int l3)]) E dX12_spreads_71 (by decide) rfl ?_
            refine y_iload E dX12_spreads_73 0 rfl ?_
            refine y_iconst (v := (-1)) E dX12_spreads_75 (by decide) ?_
            refine y_icmp_eq (tgt := 110) E dX12_spreads_76 (by decide) (fun c13 => ?_) (fun c13 => ?_)
            · replace hv := ite_t hv c13
              obtain ⟨x14, hx14⟩ : ∃ z : Int32, z = l3 + 1 := ⟨_, rfl⟩
              replace hv := hv x14 hx14
              refine y_iinc (v := x14) (lv' := [(3, .int x14), (4, .int s0), (0, .ref (w.1 0)), (2, .int l2)]) E dX12_spreads_110 3 rfl (by rw [hx14]; rfl) (by decide) rfl ?_
              refine y_goto (tgt := 40) E dX12_spreads_113 (by decide) ?_
              refine y_lv (lv' := [(0, .ref (w.1 0)), (2, .int l2), (3, .int x14)]) [2, 3, 0] rfl ?_
              exact ih40 σ l2 x14 hv
            · replace hv := ite_f hv c13
              refine y_aload_n E dX12_spreads_79 1 rfl ?_
              refine y_iconst (v := 0) E dX12_spreads_80 (by decide) ?_
              refine y_iload E dX12_spreads_81 0 rfl ?_
              refine y_calli E (y_runV E (rest := []) (kX12_has l w E.2.2.1 σ 0 s0 _ hv) (y_cwV 2 E.1.2.2.2.2 wm_483 wm_484 wm_485 wm_479 wm_486 (by decide +kernel) (yRm_le (by decide) (by decide))) (Nat.lt_of_lt_of_le (show 0 < 1 by decide) (by decide)) (mc_X12 (by decide) (by decide)) rfl rfl rfl (Nat.le_of_ble_eq_true rfl) dX12_spreads_83) (fun v15 u16 hk => ?_)
              clear hv
              have hv := hk
              clear hk
              refine y_if_ne (tgt := 110) E dX12_spreads_86 (by decide) (fun c17 => ?_) (fun c17 => ?_)
              · replace hv := ite_f hv c17
                obtain ⟨x18, hx18⟩ : ∃ z : Int32, z = l3 + 1 := ⟨_, rfl⟩
                replace hv := hv x18 hx18
                refine y_iinc (v := x18) (lv' := [(3, .int x18), (4, .int s0), (0, .ref (w.1 0)), (2, .int l2)]) E dX12_spreads_110 3 rfl (by rw [hx18]; rfl) (by decide) rfl ?_
                refine y_goto (tgt := 40) E dX12_spreads_113 (by decide) ?_
                refine y_lv (lv' := [(0, .ref (w.1 0)), (2, .int l2), (3, .int x18)]) [2, 3, 0] rfl ?_
                exact ih40 u16 l2 x18 hv
              · replace hv := ite_t hv c17
                refine y_aload_n E dX12_spreads_89 1 rfl ?_
                refine gf_X12_34 E (by decide) (by decide) wm_617 dX12_spreads_90 ?_
                refine y_iload E dX12_spreads_93 0 rfl ?_
                obtain ⟨hi, hv⟩ := hv
                refine y_iald E (Nat.lt_of_lt_of_le (show 18 < 19 by decide) (by decide)) (mc_m_far (by decide) (by decide)) hi dX12_spreads_95 ?_
                refine y_iconst (v := (-1)) E dX12_spreads_96 (by decide) ?_
                refine y_icmp_ne (tgt := 110) E dX12_spreads_97 (by decide) (fun c19 => ?_) (fun c19 => ?_)
                · replace hv := ite_f hv c19
                  obtain ⟨x20, hx20⟩ : ∃ z : Int32, z = l3 + 1 := ⟨_, rfl⟩
                  replace hv := hv x20 hx20
                  refine y_iinc (v := x20) (lv' := [(3, .int x20), (4, .int s0), (0, .ref (w.1 0)), (2, .int l2)]) E dX12_spreads_110 3 rfl (by rw [hx20]; rfl) (by decide) rfl ?_
                  refine y_goto (tgt := 40) E dX12_spreads_113 (by decide) ?_
                  refine y_lv (lv' := [(0, .ref (w.1 0)), (2, .int l2), (3, .int x20)]) [2, 3, 0] rfl ?_
                  exact ih40 u16 l2 x20 hv
                · replace hv := ite_t hv c19
                  refine y_aload_n E dX12_spreads_100 1 rfl ?_
                  refine gf_X12_34 E (by decide) (by decide) wm_617 dX12_spreads_101 ?_
                  refine y_iload E dX12_spreads_104 0 rfl ?_
                  refine y_iload_n E dX12_spreads_106 2 rfl ?_
                  refine y_iconst (v := 1) E dX12_spreads_107 (by decide) ?_
                  refine y_iadd E dX12_spreads_108 ?_
                  obtain ⟨hi, hv⟩ := hv
                  refine y_iast E (Nat.lt_of_lt_of_le (show 18 < 19 by decide) (by decide)) (fun _ => mc_m_far (by decide) (by decide)) hi dX12_spreads_109 ?_
                  refine y_nmH (fun u21 hu21 => ?_)
                  replace hv := hv u21 hu21
                  obtain ⟨x22, hx22⟩ : ∃ z : Int32, z = l3 + 1 := ⟨_, rfl⟩
                  replace hv := hv x22 hx22
                  refine y_iinc (v := x22) (lv' := [(3, .int x22), (4, .int s0), (0, .ref (w.1 0)), (2, .int l2)]) E dX12_spreads_110 3 rfl (by rw [hx22]; rfl) (by decide) rfl ?_
                  refine y_goto (tgt := 40) E dX12_spreads_113 (by decide) ?_
                  refine y_lv (lv' := [(0, .ref (w.1 0)), (2, .int l2), (3, .int x22)]) [2, 3, 0] rfl ?_
                  exact ih40 u21 l2 x22 hv
          intro σ l2 l3 hv
          unfold VX12_spreads_L40 at hv
          refine y_iload_n E dX12_spreads_40 2 rfl ?_
          refine y_bipush (v := 120) E dX12_spreads_41 (by decide) ?_
          refine y_icmp_ge (tgt := 116) E dX12_spreads_43 (by decide) (fun c8 => ?_) (fun c8 => ?_)
          · replace hv := ite_t hv c8
            obtain ⟨x9, hx9⟩ : ∃ z : Int32, z = l2 + 1 := ⟨_, rfl⟩
            replace hv := hv x9 hx9
            refine y_iinc (v := x9) (lv' := [(2, .int x9), (0, .ref (w.1 0)), (3, .int l3)]) E dX12_spreads_116 1 rfl (by rw [hx9]; rfl) (by decide) rfl ?_
            refine y_goto (tgt := 32) E dX12_spreads_119 (by decide) ?_
            refine y_lv (lv' := [(0, .ref (w.1 0)), (2, .int x9)]) [1, 0] rfl ?_
            exact ih32 σ x9 hv
          · replace hv := ite_f hv c8
            refine y_aload_n E dX12_spreads_46 0 rfl ?_
            refine gf_X12_34 E (by decide) (by decide) wm_617 dX12_spreads_47 ?_
            refine y_iload_n E dX12_spreads_50 2 rfl ?_
            refine y_iconst (v := 4) E dX12_spreads_51 (by decide) ?_
            refine y_idiv E dX12_spreads_52 (by decide) ?_
            obtain ⟨hi, hv⟩ := hv
            refine y_iald E (Nat.lt_of_lt_of_le (show 18 < 19 by decide) (by decide)) (mc_m_far (by decide) (by decide)) hi dX12_spreads_53 ?_
            refine y_iload_n E dX12_spreads_54 1 rfl ?_
            refine y_icmp_ne (tgt := 70) E dX12_spreads_55 (by decide) (fun c10 => ?_) (fun c10 => ?_)
            · replace hv := ite_f hv c10
              refine y_iconst (v := (-1)) E dX12_spreads_70 (by decide) ?_
              exact hb71 σ l2 l3 (-1) hv
            · replace hv := ite_t hv c10
              refine y_iload_n E dX12_spreads_58 2 rfl ?_
              refine y_iconst (v := 4) E dX12_spreads_59 (by decide) ?_
              refine y_idiv E dX12_spreads_60 (by decide) ?_
              refine y_iload_n E dX12_spreads_61 2 rfl ?_
              refine y_iconst (v := 4) E dX12_spreads_62 (by decide) ?_
              refine y_irem E dX12_spreads_63 (by decide) ?_
              refine y_calli E (y_runS E (rest := []) (kX12_beside l w E.2.2.1 σ (l3 / 4) (jrem l3 4) _ hv) (y_cwS 2 E.1.2.2.2.2 wm_587 wm_588 wm_479 wm_589 (by decide +kernel) (yRm_le (by decide) (by decide))) rfl rfl (Nat.le_of_ble_eq_true rfl) dX12_spreads_64) (fun v11 u12 hk => ?_)
              clear hv
              have hv := hk
              clear hk
              refine y_goto (tgt := 71) E dX12_spreads_67 (by decide) ?_
              exact hb71 u12 l2 l3 v11 hv
      intro σ l2 hv
      unfold VX12_spreads_L32 at hv
      refine y_iload_n E dX12_spreads_32 1 rfl ?_
      refine y_bipush (v := 30) E dX12_spreads_33 (by decide) ?_
      refine y_icmp_ge (tgt := 122) E dX12_spreads_35 (by decide) (fun c7 => ?_) (fun c7 => ?_)
      · replace hv := ite_t hv c7
        exact y_vret E dX12_spreads_122 hv
      · replace hv := ite_f hv c7
        refine y_iconst (v := 0) E dX12_spreads_38 (by decide) ?_
        refine y_istore_n (lv' := [(3, .int 0), (0, .ref (w.1 0)), (2, .int l2)]) E dX12_spreads_39 (by decide) rfl ?_
        refine y_lv (lv' := [(0, .ref (w.1 0)), (2, .int l2), (3, .int 0)]) [1, 2, 0] rfl ?_
        obtain ⟨n0, hv⟩ := hv
        exact hL40 n0 σ l2 0 hv
  have hL2 : ∀ (n2 : Nat) (σ : Hp) (l1 : Int32) (l2 : Int32), VX12_spreads_L2 K n2 σ l1 l2 → YY p l e (yRm 3) s m [.ref (w.1 0), .int a1].toArray below meth c w mcf 20 A (MQ below (yQv w mcf 20 K A) [.ref (w.1 0), .int a1].toArray s 0 0 A) 5 σ 2 [(0, .ref (w.1 0)), (1, .int l1), (2, .int l2)] [] := by
    intro n2
    induction n2 with
    | zero => exact fun _ _ _ hv => (by unfold VX12_spreads_L2 at hv; exact hv.elim)
    | succ n2 ih2 =>
      intro σ l1 l2 hv
      unfold VX12_spreads_L2 at hv
      refine y_iload_n E dX12_spreads_2 2 rfl ?_
      refine y_bipush (v := 30) E dX12_spreads_3 (by decide) ?_
      refine y_icmp_ge (tgt := 30) E dX12_spreads_5 (by decide) (fun c1 => ?_) (fun c1 => ?_)
      · replace hv := ite_t hv c1
        refine y_iconst (v := 0) E dX12_spreads_30 (by decide) ?_
        refine y_istore_n (lv' := [(2, .int 0), (0, .ref (w.1 0)), (1, .int l1)]) E dX12_spreads_31 (by decide) rfl ?_
        refine y_lv (lv' := [(0, .ref (w.1 0)), (2, .int 0)]) [1, 0] rfl ?_
        obtain ⟨n0, hv⟩ := hv
        exact hL32 n0 σ 0 hv
      · replace hv := ite_f hv c1
        refine y_aload_n E dX12_spreads_8 0 rfl ?_
        refine gf_X12_34 E (by decide) (by decide) wm_617 dX12_spreads_9 ?_
        refine y_iload_n E dX12_spreads_12 2 rfl ?_
        refine y_iload_n E dX12_spreads_13 2 rfl ?_
        refine y_iload_n E dX12_spreads_14 1 rfl ?_
        refine y_icmp_ne (tgt := 22) E dX12_spreads_15 (by decide) (fun c2 => ?_) (fun c2 => ?_)
        · replace hv := ite_f hv c2
          refine y_iconst (v := (-1)) E dX12_spreads_22 (by decide) ?_
          obtain ⟨hi, hv⟩ := hv
          refine y_iast E (Nat.lt_of_lt_of_le (show 18 < 19 by decide) (by decide)) (fun _ => mc_m_far (by decide) (by decide)) hi dX12_spreads_23 ?_
          refine y_nmH (fun u3 hu3 => ?_)
          replace hv := hv u3 hu3
          obtain ⟨x4, hx4⟩ : ∃ z : Int32, z = l2 + 1 := ⟨_, rfl⟩
          replace hv := hv x4 hx4
          refine y_iinc (v := x4) (lv' := [(2, .int x4), (0, .ref (w.1 0)), (1, .int l1)]) E dX12_spreads_24 2 rfl (by rw [hx4]; rfl) (by decide) rfl ?_
          refine y_goto (tgt := 2) E dX12_spreads_27 (by decide) ?_
          refine y_lv (lv' := [(0, .ref (w.1 0)), (1, .int l1), (2, .int x4)]) [1, 2, 0] rfl ?_
          exact ih2 u3 l1 x4 hv
        · replace hv := ite_t hv c2
          refine y_iconst (v := 0) E dX12_spreads_18 (by decide) ?_
          refine y_goto (tgt := 23) E dX12_spreads_19 (by decide) ?_
          obtain ⟨hi, hv⟩ := hv
          refine y_iast E (Nat.lt_of_lt_of_le (show 18 < 19 by decide) (by decide)) (fun _ => mc_m_far (by decide) (by decide)) hi dX12_spreads_23 ?_
          refine y_nmH (fun u5 hu5 => ?_)
          replace hv := hv u5 hu5
          obtain ⟨x6, hx6⟩ : ∃ z : Int32, z = l2 + 1 := ⟨_, rfl⟩
          replace hv := hv x6 hx6
          refine y_iinc (v := x6) (lv' := [(2, .int x6), (0, .ref (w.1 0)), (1, .int l1)]) E dX12_spreads_24 2 rfl (by rw [hx6]; rfl) (by decide) rfl ?_
          refine y_goto (tgt := 2) E dX12_spreads_27 (by decide) ?_
          refine y_lv (lv' := [(0, .ref (w.1 0)), (1, .int l1), (2, .int x6)]) [1, 2, 0] rfl ?_
          exact ih2 u5 l1 x6 hv
  refine y_iconst (v := 0) E dX12_spreads_0 (by decide) ?_
  refine y_istore_n (lv' := [(2, .int 0), (0, .ref (w.1 0)), (1, .int a1)]) E dX12_spreads_1 (by decide) rfl ?_
  refine y_lv (lv' := [(0, .ref (w.1 0)), (1, .int a1), (2, .int 0)]) [1, 2, 0] rfl ?_
  obtain ⟨n0, hv⟩ := hv
  exact hL2 n0 σ a1 0 hv
theorem dX12_soonest_0 : decode cX12_soonest 0 = .ok (.aload_n 0, 1) := by decide +kernel
theorem dX12_soonest_1 : decode cX12_soonest 1 = .ok (.iconst 2, 1) := by decide +kernel
theorem dX12_soonest_2 : decode cX12_soonest 2 = .ok (.iload_n 1, 1) := by decide +kernel
theorem dX12_soonest_3 : decode cX12_soonest 3 = .ok (.aload_n 0, 1) := by decide +kernel
theorem dX12_soonest_4 : decode cX12_soonest 4 = .ok (.getfield 93, 3) := by decide +kernel
theorem dX12_soonest_7 : decode cX12_soonest 7 = .ok (.iload_n 2, 1) := by decide +kernel
theorem dX12_soonest_8 : decode cX12_soonest 8 = .ok (.aload_n 0, 1) := by decide +kernel
theorem dX12_soonest_9 : decode cX12_soonest 9 = .ok (.getfield 16, 3) := by decide +kernel
theorem dX12_soonest_12 : decode cX12_soonest 12 = .ok (.iload_n 2, 1) := by decide +kernel
theorem dX12_soonest_13 : decode cX12_soonest 13 = .ok (.iaload, 1) := by decide +kernel
theorem dX12_soonest_14 : decode cX12_soonest 14 = .ok (.invokevirtual 171, 3) := by decide +kernel
theorem dX12_soonest_17 : decode cX12_soonest 17 = .ok (.istore_n 3, 1) := by decide +kernel
theorem dX12_soonest_18 : decode cX12_soonest 18 = .ok (.aload_n 0, 1) := by decide +kernel
theorem dX12_soonest_19 : decode cX12_soonest 19 = .ok (.iload_n 2, 1) := by decide +kernel
theorem dX12_soonest_20 : decode cX12_soonest 20 = .ok (.invokevirtual 200, 3) := by decide +kernel
theorem dX12_soonest_23 : decode cX12_soonest 23 = .ok (.iconst 0, 1) := by decide +kernel
theorem dX12_soonest_24 : decode cX12_soonest 24 = .ok (.istore 4, 2) := by decide +kernel
theorem dX12_soonest_26 : decode cX12_soonest 26 = .ok (.iload 4, 2) := by decide +kernel
theorem dX12_soonest_28 : decode cX12_soonest 28 = .ok (.bipush 40, 2) := by decide +kernel
theorem dX12_soonest_30 : decode cX12_soonest 30 = .ok (.if_icmp .gt 53, 3) := by decide +kernel
theorem dX12_soonest_33 : decode cX12_soonest 33 = .ok (.aload_n 0, 1) := by decide +kernel
theorem dX12_soonest_34 : decode cX12_soonest 34 = .ok (.getfield 61, 3) := by decide +kernel
theorem dX12_soonest_37 : decode cX12_soonest 37 = .ok (.aload_n 0, 1) := by decide +kernel
theorem dX12_soonest_38 : decode cX12_soonest 38 = .ok (.getfield 181, 3) := by decide +kernel
theorem dX12_soonest_41 : decode cX12_soonest 41 = .ok (.iaload, 1) := by decide +kernel
theorem dX12_soonest_42 : decode cX12_soonest 42 = .ok (.iconst (-1), 1) := by decide +kernel
theorem dX12_soonest_43 : decode cX12_soonest 43 = .ok (.if_icmp .eq 22, 3) := by decide +kernel
theorem dX12_soonest_46 : decode cX12_soonest 46 = .ok (.aload_n 0, 1) := by decide +kernel
theorem dX12_soonest_47 : decode cX12_soonest 47 = .ok (.getfield 61, 3) := by decide +kernel
theorem dX12_soonest_50 : decode cX12_soonest 50 = .ok (.aload_n 0, 1) := by decide +kernel
theorem dX12_soonest_51 : decode cX12_soonest 51 = .ok (.getfield 181, 3) := by decide +kernel
theorem dX12_soonest_54 : decode cX12_soonest 54 = .ok (.iaload, 1) := by decide +kernel
theorem dX12_soonest_55 : decode cX12_soonest 55 = .ok (.iload 4, 2) := by decide +kernel
theorem dX12_soonest_57 : decode cX12_soonest 57 = .ok (.iload_n 3, 1) := by decide +kernel
theorem dX12_soonest_58 : decode cX12_soonest 58 = .ok (.imul, 1) := by decide +kernel
theorem dX12_soonest_59 : decode cX12_soonest 59 = .ok (.if_icmp .gt 6, 3) := by decide +kernel
theorem dX12_soonest_62 : decode cX12_soonest 62 = .ok (.iload 4, 2) := by decide +kernel
theorem dX12_soonest_64 : decode cX12_soonest 64 = .ok (.ireturn, 1) := by decide +kernel
theorem dX12_soonest_65 : decode cX12_soonest 65 = .ok (.aload_n 0, 1) := by decide +kernel
theorem dX12_soonest_66 : decode cX12_soonest 66 = .ok (.iload_n 2, 1) := by decide +kernel
theorem dX12_soonest_67 : decode cX12_soonest 67 = .ok (.aload_n 0, 1) := by decide +kernel
theorem dX12_soonest_68 : decode cX12_soonest 68 = .ok (.getfield 93, 3) := by decide +kernel
theorem dX12_soonest_71 : decode cX12_soonest 71 = .ok (.iload 4, 2) := by decide +kernel
theorem dX12_soonest_73 : decode cX12_soonest 73 = .ok (.iadd, 1) := by decide +kernel
theorem dX12_soonest_74 : decode cX12_soonest 74 = .ok (.invokevirtual 196, 3) := by decide +kernel
theorem dX12_soonest_77 : decode cX12_soonest 77 = .ok (.iinc 4 1, 3) := by decide +kernel
theorem dX12_soonest_80 : decode cX12_soonest 80 = .ok (.goto (-54), 3) := by decide +kernel
theorem dX12_soonest_83 : decode cX12_soonest 83 = .ok (.iconst (-1), 1) := by decide +kernel
theorem dX12_soonest_84 : decode cX12_soonest 84 = .ok (.ireturn, 1) := by decide +kernel
set_option maxRecDepth 100000 in
set_option maxHeartbeats 4000000 in
theorem kX12_soonest (l : Launch) (w : wT) (hw : yOk w 20) (σ : Hp) (a1 : Int32) (a2 : Int32) (K : Int32 → Hp → Prop) (hv : VX12_soonest K σ a1 a2) : yMet l w mcf 20 yX12_soonest cX12_soonest 5 (some .int) 5 [.ref (w.1 0), .int a1, .int a2] σ (yQi w mcf 20 K) := by
  unfold VX12_soonest at hv
  refine y_start (lv0 := [(0, .ref (w.1 0)), (1, .int a1), (2, .int a2)]) (by decide +kernel) (own := RX12) rfl hw (Nat.le_of_ble_eq_true rfl) rfl (fun p e s m below meth c A E => ?_)
  have hL26 : ∀ (n26 : Nat) (σ : Hp) (l2 : Int32) (l3 : Int32) (l4 : Int32), VX12_soonest_L26 K n26 σ l2 l3 l4 → YY p l e (yRm 5) s m [.ref (w.1 0), .int a1, .int a2].toArray below meth c w mcf 20 A (MQ below (yQi w mcf 20 K A) [.ref (w.1 0), .int a1, .int a2].toArray s 0 0 A) 5 σ 26 [(0, .ref (w.1 0)), (2, .int l2), (3, .int l3), (4, .int l4)] [] := by
    intro n26
    induction n26 with
    | zero => exact fun _ _ _ _ hv => (by unfold VX12_soonest_L26 at hv; exact hv.elim)
    | succ n26 ih26 =>
      have hb65 : ∀ (σ : Hp) (l2 : Int32) (l3 : Int32) (l4 : Int32), VX12_soonest_b65 K (VX12_soonest_L26 K n26) σ l2 l3 l4 → YY p l e (yRm 5) s m [.ref (w.1 0), .int a1, .int a2].toArray below meth c w mcf 20 A (MQ below (yQi w mcf 20 K A) [.ref (w.1 0), .int a1, .int a2].toArray s 0 0 A) 5 σ 65 [(0, .ref (w.1 0)), (2, .int l2), (3, .int l3), (4, .int l4)] [] := by
        intro σ l2 l3 l4 hv
        unfold VX12_soonest_b65 at hv
        refine y_aload_n E dX12_soonest_65 0 rfl ?_
        refine y_iload_n E dX12_soonest_66 1 rfl ?_
        refine y_aload_n E dX12_soonest_67 0 rfl ?_
        refine gf_X12_1 E (by decide) (by decide) wm_495 dX12_soonest_68 ?_
        refine y_iload E dX12_soonest_71 3 rfl ?_
        refine y_iadd E dX12_soonest_73 ?_
        refine y_callv E (y_runV E (rest := []) (kX12_steps l w E.2.2.1 σ l2 ((σ 0 1) + l4) _ hv) (y_cwV 2 E.1.2.2.2.2 wm_594 wm_595 wm_596 wm_479 wm_597 (by decide +kernel) (yRm_le (by decide) (by decide))) (Nat.lt_of_lt_of_le (show 0 < 1 by decide) (by decide)) (mc_X12 (by decide) (by decide)) rfl rfl rfl (Nat.le_of_ble_eq_true rfl) dX12_soonest_74) (fun u9 hk => ?_)
        clear hv
        have hv := hk
        clear hk
        obtain ⟨x10, hx10⟩ : ∃ z : Int32, z = l4 + 1 := ⟨_, rfl⟩
        replace hv := hv x10 hx10
        refine y_iinc (v := x10) (lv' := [(4, .int x10), (0, .ref (w.1 0)), (2, .int l2), (3, .int l3)]) E dX12_soonest_77 3 rfl (by rw [hx10]; rfl) (by decide) rfl ?_
        refine y_goto (tgt := 26) E dX12_soonest_80 (by decide) ?_
        refine y_lv (lv' := [(0, .ref (w.1 0)), (2, .int l2), (3, .int l3), (4, .int x10)]) [1, 2, 3, 0] rfl ?_
        exact ih26 u9 l2 l3 x10 hv
      intro σ l2 l3 l4 hv
      unfold VX12_soonest_L26 at hv
      refine y_iload E dX12_soonest_26 3 rfl ?_
      refine y_bipush (v := 40) E dX12_soonest_28 (by decide) ?_
      refine y_icmp_gt (tgt := 83) E dX12_soonest_30 (by decide) (fun c5 => ?_) (fun c5 => ?_)
      · replace hv := ite_t hv c5
        refine y_iconst (v := (-1)) E dX12_soonest_83 (by decide) ?_
        exact y_iret E dX12_soonest_84 hv
      · replace hv := ite_f hv c5
        refine y_aload_n E dX12_soonest_33 0 rfl ?_
        refine gf_X12_34 E (by decide) (by decide) wm_617 dX12_soonest_34 ?_
        refine y_aload_n E dX12_soonest_37 0 rfl ?_
        refine gf_X12_32 E (by decide) (by decide) wm_581 dX12_soonest_38 ?_
        obtain ⟨hi, hv⟩ := hv
        refine y_iald E (Nat.lt_of_lt_of_le (show 18 < 19 by decide) (by decide)) (mc_m_far (by decide) (by decide)) hi dX12_soonest_41 ?_
        refine y_iconst (v := (-1)) E dX12_soonest_42 (by decide) ?_
        refine y_icmp_eq (tgt := 65) E dX12_soonest_43 (by decide) (fun c6 => ?_) (fun c6 => ?_)
        · replace hv := ite_t hv c6
          exact hb65 σ l2 l3 l4 hv
        · replace hv := ite_f hv c6
          refine y_aload_n E dX12_soonest_46 0 rfl ?_
          refine gf_X12_34 E (by decide) (by decide) wm_617 dX12_soonest_47 ?_
          refine y_aload_n E dX12_soonest_50 0 rfl ?_
          refine gf_X12_32 E (by decide) (by decide) wm_581 dX12_soonest_51 ?_
          obtain ⟨hi, hv⟩ := hv
          refine y_iald E (Nat.lt_of_lt_of_le (show 18 < 19 by decide) (by decide)) (mc_m_far (by decide) (by decide)) hi dX12_soonest_54 ?_
          refine y_iload E dX12_soonest_55 3 rfl ?_
          refine y_iload_n E dX12_soonest_57 2 rfl ?_
          refine y_imul E dX12_soonest_58 ?_
          refine y_icmp_gt (tgt := 65) E dX12_soonest_59 (by decide) (fun c7 => ?_) (fun c7 => ?_)
          · replace hv := ite_t hv c7
            exact hb65 σ l2 l3 l4 hv
          · replace hv := ite_f hv c7
            refine y_iload E dX12_soonest_62 3 rfl ?_
            exact y_iret E dX12_soonest_64 hv
  refine y_aload_n E dX12_soonest_0 0 rfl ?_
  refine y_iconst (v := 2) E dX12_soonest_1 (by decide) ?_
  refine y_iload_n E dX12_soonest_2 1 rfl ?_
  refine y_aload_n E dX12_soonest_3 0 rfl ?_
  refine gf_X12_1 E (by decide) (by decide) wm_495 dX12_soonest_4 ?_
  refine y_iload_n E dX12_soonest_7 2 rfl ?_
  refine y_aload_n E dX12_soonest_8 0 rfl ?_
  refine gf_X12_4 E (by decide) (by decide) wm_572 dX12_soonest_9 ?_
  refine y_iload_n E dX12_soonest_12 2 rfl ?_
  obtain ⟨hi, hv⟩ := hv
  refine y_iald E (Nat.lt_of_lt_of_le (show 3 < 4 by decide) (by decide)) (mc_m_moreOf (by decide) (by decide)) hi dX12_soonest_13 ?_
  refine y_calli E (y_runV E (rest := []) (kX12_asksOf l w E.2.2.1 σ 2 a1 (σ 0 1) a2 (σ 3 a2.toNatClampNeg) _ hv) (y_cwV 5 E.1.2.2.2.2 wm_566 wm_567 wm_568 wm_479 wm_569 (by decide +kernel) (yRm_le (by decide) (by decide))) (Nat.lt_of_lt_of_le (show 0 < 1 by decide) (by decide)) (mc_X12 (by decide) (by decide)) rfl rfl rfl (Nat.le_of_ble_eq_true rfl) dX12_soonest_14) (fun v1 u2 hk => ?_)
  clear hv
  have hv := hk
  clear hk
  refine y_istore_n (lv' := [(3, .int v1), (0, .ref (w.1 0)), (1, .int a1), (2, .int a2)]) E dX12_soonest_17 (by decide) rfl ?_
  refine y_aload_n E dX12_soonest_18 1 rfl ?_
  refine y_iload_n E dX12_soonest_19 3 rfl ?_
  refine y_callv E (y_runV E (rest := []) (kX12_begins l w E.2.2.1 u2 a2 _ hv) (y_cwV 1 E.1.2.2.2.2 wm_598 wm_603 wm_604 wm_479 wm_605 (by decide +kernel) (yRm_le (by decide) (by decide))) (Nat.lt_of_lt_of_le (show 0 < 1 by decide) (by decide)) (mc_X12 (by decide) (by decide)) rfl rfl rfl (Nat.le_of_ble_eq_true rfl) dX12_soonest_20) (fun u4 hk => ?_)
  clear hv
  have hv := hk
  clear hk
  refine y_iconst (v := 0) E dX12_soonest_23 (by decide) ?_
  refine y_istore (lv' := [(4, .int 0), (3, .int v1), (0, .ref (w.1 0)), (1, .int a1), (2, .int a2)]) E dX12_soonest_24 (by decide) rfl ?_
  refine y_lv (lv' := [(0, .ref (w.1 0)), (2, .int a2), (3, .int v1), (4, .int 0)]) [2, 4, 1, 0] rfl ?_
  obtain ⟨n0, hv⟩ := hv
  exact hL26 n0 u4 a2 v1 0 hv
theorem dX12_hand_0 : decode cX12_hand 0 = .ok (.aload_n 0, 1) := by decide +kernel
theorem dX12_hand_1 : decode cX12_hand 1 = .ok (.iload_n 1, 1) := by decide +kernel
theorem dX12_hand_2 : decode cX12_hand 2 = .ok (.invokevirtual 175, 3) := by decide +kernel
theorem dX12_hand_5 : decode cX12_hand 5 = .ok (.ifCond .eq 11, 3) := by decide +kernel
theorem dX12_hand_8 : decode cX12_hand 8 = .ok (.aload_n 0, 1) := by decide +kernel
theorem dX12_hand_9 : decode cX12_hand 9 = .ok (.iload_n 2, 1) := by decide +kernel
theorem dX12_hand_10 : decode cX12_hand 10 = .ok (.invokevirtual 178, 3) := by decide +kernel
theorem dX12_hand_13 : decode cX12_hand 13 = .ok (.ifCond .ne 6, 3) := by decide +kernel
theorem dX12_hand_16 : decode cX12_hand 16 = .ok (.bipush (-5), 2) := by decide +kernel
theorem dX12_hand_18 : decode cX12_hand 18 = .ok (.ireturn, 1) := by decide +kernel
theorem dX12_hand_19 : decode cX12_hand 19 = .ok (.aload_n 0, 1) := by decide +kernel
theorem dX12_hand_20 : decode cX12_hand 20 = .ok (.iload_n 1, 1) := by decide +kernel
theorem dX12_hand_21 : decode cX12_hand 21 = .ok (.invokevirtual 215, 3) := by decide +kernel
theorem dX12_hand_24 : decode cX12_hand 24 = .ok (.aload_n 0, 1) := by decide +kernel
theorem dX12_hand_25 : decode cX12_hand 25 = .ok (.iload_n 1, 1) := by decide +kernel
theorem dX12_hand_26 : decode cX12_hand 26 = .ok (.iload_n 2, 1) := by decide +kernel
theorem dX12_hand_27 : decode cX12_hand 27 = .ok (.invokevirtual 218, 3) := by decide +kernel
theorem dX12_hand_30 : decode cX12_hand 30 = .ok (.ireturn, 1) := by decide +kernel
set_option maxRecDepth 100000 in
set_option maxHeartbeats 4000000 in
theorem kX12_hand (l : Launch) (w : wT) (hw : yOk w 20) (σ : Hp) (a1 : Int32) (a2 : Int32) (K : Int32 → Hp → Prop) (hv : VX12_hand K σ a1 a2) : yMet l w mcf 20 yX12_hand cX12_hand 3 (some .int) 6 [.ref (w.1 0), .int a1, .int a2] σ (yQi w mcf 20 K) := by
  unfold VX12_hand at hv
  refine y_start (lv0 := [(0, .ref (w.1 0)), (1, .int a1), (2, .int a2)]) (by decide +kernel) (own := RX12) rfl hw (Nat.le_of_ble_eq_true rfl) rfl (fun p e s m below meth c A E => ?_)
  refine y_aload_n E dX12_hand_0 0 rfl ?_
  refine y_iload_n E dX12_hand_1 1 rfl ?_
  refine y_calli E (y_runV E (rest := []) (kX12_isFree l w E.2.2.1 σ a1 _ hv) (y_cwV 1 E.1.2.2.2.2 wm_570 wm_574 wm_575 wm_479 wm_576 (by decide +kernel) (yRm_le (by decide) (by decide))) (Nat.lt_of_lt_of_le (show 0 < 1 by decide) (by decide)) (mc_X12 (by decide) (by decide)) rfl rfl rfl (Nat.le_of_ble_eq_true rfl) dX12_hand_2) (fun v1 u2 hk => ?_)
  clear hv
  have hv := hk
  clear hk
  refine y_if_eq (tgt := 16) E dX12_hand_5 (by decide) (fun c3 => ?_) (fun c3 => ?_)
  · replace hv := ite_t hv c3
    refine y_bipush (v := (-5)) E dX12_hand_16 (by decide) ?_
    exact y_iret E dX12_hand_18 hv
  · replace hv := ite_f hv c3
    refine y_aload_n E dX12_hand_8 0 rfl ?_
    refine y_iload_n E dX12_hand_9 2 rfl ?_
    refine y_calli E (y_runV E (rest := []) (kX12_isThing l w E.2.2.1 u2 a2 _ hv) (y_cwV 1 E.1.2.2.2.2 wm_577 wm_578 wm_579 wm_479 wm_580 (by decide +kernel) (yRm_le (by decide) (by decide))) (Nat.lt_of_lt_of_le (show 0 < 1 by decide) (by decide)) (mc_X12 (by decide) (by decide)) rfl rfl rfl (Nat.le_of_ble_eq_true rfl) dX12_hand_10) (fun v4 u5 hk => ?_)
    clear hv
    have hv := hk
    clear hk
    refine y_if_ne (tgt := 19) E dX12_hand_13 (by decide) (fun c6 => ?_) (fun c6 => ?_)
    · replace hv := ite_f hv c6
      refine y_aload_n E dX12_hand_19 0 rfl ?_
      refine y_iload_n E dX12_hand_20 1 rfl ?_
      refine y_callv E (y_runV E (rest := []) (kX12_spreads l w E.2.2.1 u5 a1 _ hv) (y_cwV 1 E.1.2.2.2.2 wm_618 wm_623 wm_624 wm_479 wm_625 (by decide +kernel) (yRm_le (by decide) (by decide))) (Nat.lt_of_lt_of_le (show 0 < 1 by decide) (by decide)) (mc_X12 (by decide) (by decide)) rfl rfl rfl (Nat.le_of_ble_eq_true rfl) dX12_hand_21) (fun u8 hk => ?_)
      clear hv
      have hv := hk
      clear hk
      refine y_aload_n E dX12_hand_24 0 rfl ?_
      refine y_iload_n E dX12_hand_25 1 rfl ?_
      refine y_iload_n E dX12_hand_26 2 rfl ?_
      refine y_calli E (y_runV E (rest := []) (kX12_soonest l w E.2.2.1 u8 a1 a2 _ hv) (y_cwV 2 E.1.2.2.2.2 wm_619 wm_620 wm_621 wm_479 wm_622 (by decide +kernel) (yRm_le (by decide) (by decide))) (Nat.lt_of_lt_of_le (show 0 < 1 by decide) (by decide)) (mc_X12 (by decide) (by decide)) rfl rfl rfl (Nat.le_of_ble_eq_true rfl) dX12_hand_27) (fun v9 u10 hk => ?_)
      clear hv
      have hv := hk
      clear hk
      exact y_iret E dX12_hand_30 hv
    · replace hv := ite_t hv c6
      refine y_bipush (v := (-5)) E dX12_hand_16 (by decide) ?_
      exact y_iret E dX12_hand_18 hv
theorem dX12_first_0 : decode cX12_first 0 = .ok (.aload_n 0, 1) := by decide +kernel
theorem dX12_first_1 : decode cX12_first 1 = .ok (.iload_n 1, 1) := by decide +kernel
theorem dX12_first_2 : decode cX12_first 2 = .ok (.invokevirtual 175, 3) := by decide +kernel
theorem dX12_first_5 : decode cX12_first 5 = .ok (.ifCond .ne 6, 3) := by decide +kernel
theorem dX12_first_8 : decode cX12_first 8 = .ok (.bipush (-5), 2) := by decide +kernel
theorem dX12_first_10 : decode cX12_first 10 = .ok (.ireturn, 1) := by decide +kernel
theorem dX12_first_11 : decode cX12_first 11 = .ok (.iload_n 2, 1) := by decide +kernel
theorem dX12_first_12 : decode cX12_first 12 = .ok (.iconst 0, 1) := by decide +kernel
theorem dX12_first_13 : decode cX12_first 13 = .ok (.iconst 1, 1) := by decide +kernel
theorem dX12_first_14 : decode cX12_first 14 = .ok (.invokestatic 75, 3) := by decide +kernel
theorem dX12_first_17 : decode cX12_first 17 = .ok (.ifCond .ne 6, 3) := by decide +kernel
theorem dX12_first_20 : decode cX12_first 20 = .ok (.bipush (-7), 2) := by decide +kernel
theorem dX12_first_22 : decode cX12_first 22 = .ok (.ireturn, 1) := by decide +kernel
theorem dX12_first_23 : decode cX12_first 23 = .ok (.aload_n 0, 1) := by decide +kernel
theorem dX12_first_24 : decode cX12_first 24 = .ok (.iload_n 1, 1) := by decide +kernel
theorem dX12_first_25 : decode cX12_first 25 = .ok (.invokevirtual 215, 3) := by decide +kernel
theorem dX12_first_28 : decode cX12_first 28 = .ok (.iconst (-1), 1) := by decide +kernel
theorem dX12_first_29 : decode cX12_first 29 = .ok (.istore_n 3, 1) := by decide +kernel
theorem dX12_first_30 : decode cX12_first 30 = .ok (.iconst 0, 1) := by decide +kernel
theorem dX12_first_31 : decode cX12_first 31 = .ok (.istore 4, 2) := by decide +kernel
theorem dX12_first_33 : decode cX12_first 33 = .ok (.iconst 0, 1) := by decide +kernel
theorem dX12_first_34 : decode cX12_first 34 = .ok (.istore 5, 2) := by decide +kernel
theorem dX12_first_36 : decode cX12_first 36 = .ok (.iload 5, 2) := by decide +kernel
theorem dX12_first_38 : decode cX12_first 38 = .ok (.aload_n 0, 1) := by decide +kernel
theorem dX12_first_39 : decode cX12_first 39 = .ok (.getfield 87, 3) := by decide +kernel
theorem dX12_first_42 : decode cX12_first 42 = .ok (.if_icmp .ge 106, 3) := by decide +kernel
theorem dX12_first_45 : decode cX12_first 45 = .ok (.aload_n 0, 1) := by decide +kernel
theorem dX12_first_46 : decode cX12_first 46 = .ok (.iload_n 1, 1) := by decide +kernel
theorem dX12_first_47 : decode cX12_first 47 = .ok (.iload 5, 2) := by decide +kernel
theorem dX12_first_49 : decode cX12_first 49 = .ok (.invokevirtual 218, 3) := by decide +kernel
theorem dX12_first_52 : decode cX12_first 52 = .ok (.istore 6, 2) := by decide +kernel
theorem dX12_first_54 : decode cX12_first 54 = .ok (.iload_n 2, 1) := by decide +kernel
theorem dX12_first_55 : decode cX12_first 55 = .ok (.ifCond .ne 9, 3) := by decide +kernel
theorem dX12_first_58 : decode cX12_first 58 = .ok (.iload 6, 2) := by decide +kernel
theorem dX12_first_60 : decode cX12_first 60 = .ok (.ineg, 1) := by decide +kernel
theorem dX12_first_61 : decode cX12_first 61 = .ok (.goto 28, 3) := by decide +kernel
theorem dX12_first_64 : decode cX12_first 64 = .ok (.aload_n 0, 1) := by decide +kernel
theorem dX12_first_65 : decode cX12_first 65 = .ok (.iconst 1, 1) := by decide +kernel
theorem dX12_first_66 : decode cX12_first 66 = .ok (.aload_n 0, 1) := by decide +kernel
theorem dX12_first_67 : decode cX12_first 67 = .ok (.getfield 19, 3) := by decide +kernel
theorem dX12_first_70 : decode cX12_first 70 = .ok (.iload 5, 2) := by decide +kernel
theorem dX12_first_72 : decode cX12_first 72 = .ok (.iaload, 1) := by decide +kernel
theorem dX12_first_73 : decode cX12_first 73 = .ok (.aload_n 0, 1) := by decide +kernel
theorem dX12_first_74 : decode cX12_first 74 = .ok (.getfield 93, 3) := by decide +kernel
theorem dX12_first_77 : decode cX12_first 77 = .ok (.iload 5, 2) := by decide +kernel
theorem dX12_first_79 : decode cX12_first 79 = .ok (.aload_n 0, 1) := by decide +kernel
theorem dX12_first_80 : decode cX12_first 80 = .ok (.getfield 16, 3) := by decide +kernel
theorem dX12_first_83 : decode cX12_first 83 = .ok (.iload 5, 2) := by decide +kernel
theorem dX12_first_85 : decode cX12_first 85 = .ok (.iaload, 1) := by decide +kernel
theorem dX12_first_86 : decode cX12_first 86 = .ok (.invokevirtual 171, 3) := by decide +kernel
theorem dX12_first_89 : decode cX12_first 89 = .ok (.istore 7, 2) := by decide +kernel
theorem dX12_first_91 : decode cX12_first 91 = .ok (.iload 6, 2) := by decide +kernel
theorem dX12_first_93 : decode cX12_first 93 = .ok (.iconst (-1), 1) := by decide +kernel
theorem dX12_first_94 : decode cX12_first 94 = .ok (.if_icmp .eq 19, 3) := by decide +kernel
theorem dX12_first_97 : decode cX12_first 97 = .ok (.iload_n 3, 1) := by decide +kernel
theorem dX12_first_98 : decode cX12_first 98 = .ok (.iconst (-1), 1) := by decide +kernel
theorem dX12_first_99 : decode cX12_first 99 = .ok (.if_icmp .eq 10, 3) := by decide +kernel
theorem dX12_first_102 : decode cX12_first 102 = .ok (.iload 7, 2) := by decide +kernel
theorem dX12_first_104 : decode cX12_first 104 = .ok (.iload 4, 2) := by decide +kernel
theorem dX12_first_106 : decode cX12_first 106 = .ok (.if_icmp .le 7, 3) := by decide +kernel
theorem dX12_first_109 : decode cX12_first 109 = .ok (.iconst 1, 1) := by decide +kernel
theorem dX12_first_110 : decode cX12_first 110 = .ok (.goto 4, 3) := by decide +kernel
theorem dX12_first_113 : decode cX12_first 113 = .ok (.iconst 0, 1) := by decide +kernel
theorem dX12_first_114 : decode cX12_first 114 = .ok (.istore 8, 2) := by decide +kernel
theorem dX12_first_116 : decode cX12_first 116 = .ok (.iload 8, 2) := by decide +kernel
theorem dX12_first_118 : decode cX12_first 118 = .ok (.ifCond .eq 8, 3) := by decide +kernel
theorem dX12_first_121 : decode cX12_first 121 = .ok (.iload 5, 2) := by decide +kernel
theorem dX12_first_123 : decode cX12_first 123 = .ok (.goto 4, 3) := by decide +kernel
theorem dX12_first_126 : decode cX12_first 126 = .ok (.iload_n 3, 1) := by decide +kernel
theorem dX12_first_127 : decode cX12_first 127 = .ok (.istore_n 3, 1) := by decide +kernel
theorem dX12_first_128 : decode cX12_first 128 = .ok (.iload 8, 2) := by decide +kernel
theorem dX12_first_130 : decode cX12_first 130 = .ok (.ifCond .eq 8, 3) := by decide +kernel
theorem dX12_first_133 : decode cX12_first 133 = .ok (.iload 7, 2) := by decide +kernel
theorem dX12_first_135 : decode cX12_first 135 = .ok (.goto 5, 3) := by decide +kernel
theorem dX12_first_138 : decode cX12_first 138 = .ok (.iload 4, 2) := by decide +kernel
theorem dX12_first_140 : decode cX12_first 140 = .ok (.istore 4, 2) := by decide +kernel
theorem dX12_first_142 : decode cX12_first 142 = .ok (.iinc 5 1, 3) := by decide +kernel
theorem dX12_first_145 : decode cX12_first 145 = .ok (.goto (-109), 3) := by decide +kernel
theorem dX12_first_148 : decode cX12_first 148 = .ok (.iload_n 3, 1) := by decide +kernel
theorem dX12_first_149 : decode cX12_first 149 = .ok (.ireturn, 1) := by decide +kernel
set_option maxRecDepth 100000 in
set_option maxHeartbeats 4000000 in
theorem kX12_first (l : Launch) (w : wT) (hw : yOk w 20) (σ : Hp) (a1 : Int32) (a2 : Int32) (K : Int32 → Hp → Prop) (hv : VX12_first K σ a1 a2) : yMet l w mcf 20 yX12_first cX12_first 9 (some .int) 6 [.ref (w.1 0), .int a1, .int a2] σ (yQi w mcf 20 K) := by
  unfold VX12_first at hv
  refine y_start (lv0 := [(0, .ref (w.1 0)), (1, .int a1), (2, .int a2)]) (by decide +kernel) (own := RX12) rfl hw (Nat.le_of_ble_eq_true rfl) rfl (fun p e s m below meth c A E => ?_)
  have hL36 : ∀ (n36 : Nat) (σ : Hp) (l1 : Int32) (l2 : Int32) (l3 : Int32) (l4 : Int32) (l5 : Int32), VX12_first_L36 K n36 σ l1 l2 l3 l4 l5 → YY p l e (yRm 6) s m [.ref (w.1 0), .int a1, .int a2].toArray below meth c w mcf 20 A (MQ below (yQi w mcf 20 K A) [.ref (w.1 0), .int a1, .int a2].toArray s 0 0 A) 9 σ 36 [(0, .ref (w.1 0)), (1, .int l1), (2, .int l2), (3, .int l3), (4, .int l4), (5, .int l5)] [] := by
    intro n36
    induction n36 with
    | zero => exact fun _ _ _ _ _ _ hv => (by unfold VX12_first_L36 at hv; exact hv.elim)
    | succ n36 ih36 =>
      have hb127 : ∀ (σ : Hp) (l1 : Int32) (l2 : Int32) (l4 : Int32) (l5 : Int32) (l7 : Int32) (l8 : Int32) (s0 : Int32), VX12_first_b127 K (VX12_first_L36 K n36) σ l1 l2 l4 l5 l7 l8 s0 → YY p l e (yRm 6) s m [.ref (w.1 0), .int a1, .int a2].toArray below meth c w mcf 20 A (MQ below (yQi w mcf 20 K A) [.ref (w.1 0), .int a1, .int a2].toArray s 0 0 A) 9 σ 127 [(0, .ref (w.1 0)), (1, .int l1), (2, .int l2), (4, .int l4), (5, .int l5), (7, .int l7), (8, .int l8)] [.int s0] := by
        intro σ l1 l2 l4 l5 l7 l8 s0 hv
        unfold VX12_first_b127 at hv
        refine y_istore_n (lv' := [(3, .int s0), (0, .ref (w.1 0)), (1, .int l1), (2, .int l2), (4, .int l4), (5, .int l5), (7, .int l7), (8, .int l8)]) E dX12_first_127 (by decide) rfl ?_
        refine y_iload E dX12_first_128 7 rfl ?_
        refine y_if_eq (tgt := 138) E dX12_first_130 (by decide) (fun c19 => ?_) (fun c19 => ?_)
        · replace hv := ite_t hv c19
          refine y_iload E dX12_first_138 4 rfl ?_
          refine y_istore (lv' := [(4, .int l4), (3, .int s0), (0, .ref (w.1 0)), (1, .int l1), (2, .int l2), (5, .int l5), (7, .int l7), (8, .int l8)]) E dX12_first_140 (by decide) rfl ?_
          obtain ⟨x20, hx20⟩ : ∃ z : Int32, z = l5 + 1 := ⟨_, rfl⟩
          replace hv := hv x20 hx20
          refine y_iinc (v := x20) (lv' := [(5, .int x20), (4, .int l4), (3, .int s0), (0, .ref (w.1 0)), (1, .int l1), (2, .int l2), (7, .int l7), (8, .int l8)]) E dX12_first_142 5 rfl (by rw [hx20]; rfl) (by decide) rfl ?_
          refine y_goto (tgt := 36) E dX12_first_145 (by decide) ?_
          refine y_lv (lv' := [(0, .ref (w.1 0)), (1, .int l1), (2, .int l2), (3, .int s0), (4, .int l4), (5, .int x20)]) [3, 4, 5, 2, 1, 0] rfl ?_
          exact ih36 σ l1 l2 s0 l4 x20 hv
        · replace hv := ite_f hv c19
          refine y_iload E dX12_first_133 6 rfl ?_
          refine y_goto (tgt := 140) E dX12_first_135 (by decide) ?_
          refine y_istore (lv' := [(4, .int l7), (3, .int s0), (0, .ref (w.1 0)), (1, .int l1), (2, .int l2), (5, .int l5), (7, .int l7), (8, .int l8)]) E dX12_first_140 (by decide) rfl ?_
          obtain ⟨x21, hx21⟩ : ∃ z : Int32, z = l5 + 1 := ⟨_, rfl⟩
          replace hv := hv x21 hx21
          refine y_iinc (v := x21) (lv' := [(5, .int x21), (4, .int l7), (3, .int s0), (0, .ref (w.1 0)), (1, .int l1), (2, .int l2), (7, .int l7), (8, .int l8)]) E dX12_first_142 5 rfl (by rw [hx21]; rfl) (by decide) rfl ?_
          refine y_goto (tgt := 36) E dX12_first_145 (by decide) ?_
          refine y_lv (lv' := [(0, .ref (w.1 0)), (1, .int l1), (2, .int l2), (3, .int s0), (4, .int l7), (5, .int x21)]) [3, 4, 5, 2, 1, 0] rfl ?_
          exact ih36 σ l1 l2 s0 l7 x21 hv
      have hb114 : ∀ (σ : Hp) (l1 : Int32) (l2 : Int32) (l3 : Int32) (l4 : Int32) (l5 : Int32) (l7 : Int32) (s0 : Int32), VX12_first_b114 K (VX12_first_L36 K n36) σ l1 l2 l3 l4 l5 l7 s0 → YY p l e (yRm 6) s m [.ref (w.1 0), .int a1, .int a2].toArray below meth c w mcf 20 A (MQ below (yQi w mcf 20 K A) [.ref (w.1 0), .int a1, .int a2].toArray s 0 0 A) 9 σ 114 [(0, .ref (w.1 0)), (1, .int l1), (2, .int l2), (3, .int l3), (4, .int l4), (5, .int l5), (7, .int l7)] [.int s0] := by
        intro σ l1 l2 l3 l4 l5 l7 s0 hv
        unfold VX12_first_b114 at hv
        refine y_istore (lv' := [(8, .int s0), (0, .ref (w.1 0)), (1, .int l1), (2, .int l2), (3, .int l3), (4, .int l4), (5, .int l5), (7, .int l7)]) E dX12_first_114 (by decide) rfl ?_
        refine y_iload E dX12_first_116 0 rfl ?_
        refine y_if_eq (tgt := 126) E dX12_first_118 (by decide) (fun c18 => ?_) (fun c18 => ?_)
        · replace hv := ite_t hv c18
          refine y_iload_n E dX12_first_126 4 rfl ?_
          refine y_lv (lv' := [(0, .ref (w.1 0)), (1, .int l1), (2, .int l2), (4, .int l4), (5, .int l5), (7, .int l7), (8, .int s0)]) [1, 2, 3, 5, 6, 7, 0] rfl ?_
          exact hb127 σ l1 l2 l4 l5 l7 s0 l3 hv
        · replace hv := ite_f hv c18
          refine y_iload E dX12_first_121 6 rfl ?_
          refine y_goto (tgt := 127) E dX12_first_123 (by decide) ?_
          refine y_lv (lv' := [(0, .ref (w.1 0)), (1, .int l1), (2, .int l2), (4, .int l4), (5, .int l5), (7, .int l7), (8, .int s0)]) [1, 2, 3, 5, 6, 7, 0] rfl ?_
          exact hb127 σ l1 l2 l4 l5 l7 s0 l5 hv
      have hb89 : ∀ (σ : Hp) (l1 : Int32) (l2 : Int32) (l3 : Int32) (l4 : Int32) (l5 : Int32) (l6 : Int32) (s0 : Int32), VX12_first_b89 K (VX12_first_L36 K n36) σ l1 l2 l3 l4 l5 l6 s0 → YY p l e (yRm 6) s m [.ref (w.1 0), .int a1, .int a2].toArray below meth c w mcf 20 A (MQ below (yQi w mcf 20 K A) [.ref (w.1 0), .int a1, .int a2].toArray s 0 0 A) 9 σ 89 [(0, .ref (w.1 0)), (1, .int l1), (2, .int l2), (3, .int l3), (4, .int l4), (5, .int l5), (6, .int l6)] [.int s0] := by
        intro σ l1 l2 l3 l4 l5 l6 s0 hv
        unfold VX12_first_b89 at hv
        refine y_istore (lv' := [(7, .int s0), (0, .ref (w.1 0)), (1, .int l1), (2, .int l2), (3, .int l3), (4, .int l4), (5, .int l5), (6, .int l6)]) E dX12_first_89 (by decide) rfl ?_
        refine y_iload E dX12_first_91 7 rfl ?_
        refine y_iconst (v := (-1)) E dX12_first_93 (by decide) ?_
        refine y_icmp_eq (tgt := 113) E dX12_first_94 (by decide) (fun c15 => ?_) (fun c15 => ?_)
        · replace hv := ite_t hv c15
          refine y_iconst (v := 0) E dX12_first_113 (by decide) ?_
          refine y_lv (lv' := [(0, .ref (w.1 0)), (1, .int l1), (2, .int l2), (3, .int l3), (4, .int l4), (5, .int l5), (7, .int s0)]) [1, 2, 3, 4, 5, 6, 0] rfl ?_
          exact hb114 σ l1 l2 l3 l4 l5 s0 0 hv
        · replace hv := ite_f hv c15
          refine y_iload_n E dX12_first_97 4 rfl ?_
          refine y_iconst (v := (-1)) E dX12_first_98 (by decide) ?_
          refine y_icmp_eq (tgt := 109) E dX12_first_99 (by decide) (fun c16 => ?_) (fun c16 => ?_)
          · replace hv := ite_t hv c16
            refine y_iconst (v := 1) E dX12_first_109 (by decide) ?_
            refine y_goto (tgt := 114) E dX12_first_110 (by decide) ?_
            refine y_lv (lv' := [(0, .ref (w.1 0)), (1, .int l1), (2, .int l2), (3, .int l3), (4, .int l4), (5, .int l5), (7, .int s0)]) [1, 2, 3, 4, 5, 6, 0] rfl ?_
            exact hb114 σ l1 l2 l3 l4 l5 s0 1 hv
          · replace hv := ite_f hv c16
            refine y_iload E dX12_first_102 0 rfl ?_
            refine y_iload E dX12_first_104 5 rfl ?_
            refine y_icmp_le (tgt := 113) E dX12_first_106 (by decide) (fun c17 => ?_) (fun c17 => ?_)
            · replace hv := ite_t hv c17
              refine y_iconst (v := 0) E dX12_first_113 (by decide) ?_
              refine y_lv (lv' := [(0, .ref (w.1 0)), (1, .int l1), (2, .int l2), (3, .int l3), (4, .int l4), (5, .int l5), (7, .int s0)]) [1, 2, 3, 4, 5, 6, 0] rfl ?_
              exact hb114 σ l1 l2 l3 l4 l5 s0 0 hv
            · replace hv := ite_f hv c17
              refine y_iconst (v := 1) E dX12_first_109 (by decide) ?_
              refine y_goto (tgt := 114) E dX12_first_110 (by decide) ?_
              refine y_lv (lv' := [(0, .ref (w.1 0)), (1, .int l1), (2, .int l2), (3, .int l3), (4, .int l4), (5, .int l5), (7, .int s0)]) [1, 2, 3, 4, 5, 6, 0] rfl ?_
              exact hb114 σ l1 l2 l3 l4 l5 s0 1 hv
      intro σ l1 l2 l3 l4 l5 hv
      unfold VX12_first_L36 at hv
      refine y_iload E dX12_first_36 5 rfl ?_
      refine y_aload_n E dX12_first_38 0 rfl ?_
      refine gf_X12_2 E (by decide) (by decide) wm_489 dX12_first_39 ?_
      refine y_icmp_ge (tgt := 148) E dX12_first_42 (by decide) (fun c9 => ?_) (fun c9 => ?_)
      · replace hv := ite_t hv c9
        refine y_iload_n E dX12_first_148 3 rfl ?_
        exact y_iret E dX12_first_149 hv
      · replace hv := ite_f hv c9
        refine y_aload_n E dX12_first_45 0 rfl ?_
        refine y_iload_n E dX12_first_46 1 rfl ?_
        refine y_iload E dX12_first_47 5 rfl ?_
        refine y_calli E (y_runV E (rest := []) (kX12_soonest l w E.2.2.1 σ l1 l5 _ hv) (y_cwV 2 E.1.2.2.2.2 wm_619 wm_620 wm_621 wm_479 wm_622 (by decide +kernel) (yRm_le (by decide) (by decide))) (Nat.lt_of_lt_of_le (show 0 < 1 by decide) (by decide)) (mc_X12 (by decide) (by decide)) rfl rfl rfl (Nat.le_of_ble_eq_true rfl) dX12_first_49) (fun v10 u11 hk => ?_)
        clear hv
        have hv := hk
        clear hk
        refine y_istore (lv' := [(6, .int v10), (0, .ref (w.1 0)), (1, .int l1), (2, .int l2), (3, .int l3), (4, .int l4), (5, .int l5)]) E dX12_first_52 (by decide) rfl ?_
        refine y_iload_n E dX12_first_54 3 rfl ?_
        refine y_if_ne (tgt := 64) E dX12_first_55 (by decide) (fun c12 => ?_) (fun c12 => ?_)
        · replace hv := ite_f hv c12
          refine y_aload_n E dX12_first_64 1 rfl ?_
          refine y_iconst (v := 1) E dX12_first_65 (by decide) ?_
          refine y_aload_n E dX12_first_66 1 rfl ?_
          refine gf_X12_5 E (by decide) (by decide) wm_490 dX12_first_67 ?_
          refine y_iload E dX12_first_70 6 rfl ?_
          obtain ⟨hi, hv⟩ := hv
          refine y_iald E (Nat.lt_of_lt_of_le (show 4 < 5 by decide) (by decide)) (mc_m_cellOf (by decide) (by decide)) hi dX12_first_72 ?_
          refine y_aload_n E dX12_first_73 1 rfl ?_
          refine gf_X12_1 E (by decide) (by decide) wm_495 dX12_first_74 ?_
          refine y_iload E dX12_first_77 6 rfl ?_
          refine y_aload_n E dX12_first_79 1 rfl ?_
          refine gf_X12_4 E (by decide) (by decide) wm_572 dX12_first_80 ?_
          refine y_iload E dX12_first_83 6 rfl ?_
          obtain ⟨hi, hv⟩ := hv
          refine y_iald E (Nat.lt_of_lt_of_le (show 3 < 4 by decide) (by decide)) (mc_m_moreOf (by decide) (by decide)) hi dX12_first_85 ?_
          refine y_calli E (y_runV E (rest := []) (kX12_asksOf l w E.2.2.1 u11 1 (u11 4 l5.toNatClampNeg) (u11 0 1) l5 (u11 3 l5.toNatClampNeg) _ hv) (y_cwV 5 E.1.2.2.2.2 wm_566 wm_567 wm_568 wm_479 wm_569 (by decide +kernel) (yRm_le (by decide) (by decide))) (Nat.lt_of_lt_of_le (show 0 < 1 by decide) (by decide)) (mc_X12 (by decide) (by decide)) rfl rfl rfl (Nat.le_of_ble_eq_true rfl) dX12_first_86) (fun v13 u14 hk => ?_)
          clear hv
          have hv := hk
          clear hk
          refine y_lv (lv' := [(0, .ref (w.1 0)), (1, .int l1), (2, .int l2), (3, .int l3), (4, .int l4), (5, .int l5), (6, .int v10)]) [1, 2, 3, 4, 5, 6, 0] rfl ?_
          exact hb89 u14 l1 l2 l3 l4 l5 v10 v13 hv
        · replace hv := ite_t hv c12
          refine y_iload E dX12_first_58 0 rfl ?_
          refine y_ineg E dX12_first_60 ?_
          refine y_goto (tgt := 89) E dX12_first_61 (by decide) ?_
          refine y_lv (lv' := [(0, .ref (w.1 0)), (1, .int l1), (2, .int l2), (3, .int l3), (4, .int l4), (5, .int l5), (6, .int v10)]) [1, 2, 3, 4, 5, 6, 0] rfl ?_
          exact hb89 u11 l1 l2 l3 l4 l5 v10 (-v10) hv
  refine y_aload_n E dX12_first_0 0 rfl ?_
  refine y_iload_n E dX12_first_1 1 rfl ?_
  refine y_calli E (y_runV E (rest := []) (kX12_isFree l w E.2.2.1 σ a1 _ hv) (y_cwV 1 E.1.2.2.2.2 wm_570 wm_574 wm_575 wm_479 wm_576 (by decide +kernel) (yRm_le (by decide) (by decide))) (Nat.lt_of_lt_of_le (show 0 < 1 by decide) (by decide)) (mc_X12 (by decide) (by decide)) rfl rfl rfl (Nat.le_of_ble_eq_true rfl) dX12_first_2) (fun v1 u2 hk => ?_)
  clear hv
  have hv := hk
  clear hk
  refine y_if_ne (tgt := 11) E dX12_first_5 (by decide) (fun c3 => ?_) (fun c3 => ?_)
  · replace hv := ite_f hv c3
    refine y_iload_n E dX12_first_11 2 rfl ?_
    refine y_iconst (v := 0) E dX12_first_12 (by decide) ?_
    refine y_iconst (v := 1) E dX12_first_13 (by decide) ?_
    refine y_calli E (y_runS E (rest := []) (kX12_in l w E.2.2.1 u2 a2 0 1 _ hv) (y_cwS 3 E.1.2.2.2.2 wm_477 wm_478 wm_479 wm_480 (by decide +kernel) (yRm_le (by decide) (by decide))) rfl rfl (Nat.le_of_ble_eq_true rfl) dX12_first_14) (fun v4 u5 hk => ?_)
    clear hv
    have hv := hk
    clear hk
    refine y_if_ne (tgt := 23) E dX12_first_17 (by decide) (fun c6 => ?_) (fun c6 => ?_)
    · replace hv := ite_f hv c6
      refine y_aload_n E dX12_first_23 0 rfl ?_
      refine y_iload_n E dX12_first_24 1 rfl ?_
      refine y_callv E (y_runV E (rest := []) (kX12_spreads l w E.2.2.1 u5 a1 _ hv) (y_cwV 1 E.1.2.2.2.2 wm_618 wm_623 wm_624 wm_479 wm_625 (by decide +kernel) (yRm_le (by decide) (by decide))) (Nat.lt_of_lt_of_le (show 0 < 1 by decide) (by decide)) (mc_X12 (by decide) (by decide)) rfl rfl rfl (Nat.le_of_ble_eq_true rfl) dX12_first_25) (fun u8 hk => ?_)
      clear hv
      have hv := hk
      clear hk
      refine y_iconst (v := (-1)) E dX12_first_28 (by decide) ?_
      refine y_istore_n (lv' := [(3, .int (-1)), (0, .ref (w.1 0)), (1, .int a1), (2, .int a2)]) E dX12_first_29 (by decide) rfl ?_
      refine y_iconst (v := 0) E dX12_first_30 (by decide) ?_
      refine y_istore (lv' := [(4, .int 0), (3, .int (-1)), (0, .ref (w.1 0)), (1, .int a1), (2, .int a2)]) E dX12_first_31 (by decide) rfl ?_
      refine y_iconst (v := 0) E dX12_first_33 (by decide) ?_
      refine y_istore (lv' := [(5, .int 0), (4, .int 0), (3, .int (-1)), (0, .ref (w.1 0)), (1, .int a1), (2, .int a2)]) E dX12_first_34 (by decide) rfl ?_
      refine y_lv (lv' := [(0, .ref (w.1 0)), (1, .int a1), (2, .int a2), (3, .int (-1)), (4, .int 0), (5, .int 0)]) [3, 4, 5, 2, 1, 0] rfl ?_
      obtain ⟨n0, hv⟩ := hv
      exact hL36 n0 u8 a1 a2 (-1) 0 0 hv
    · replace hv := ite_t hv c6
      refine y_bipush (v := (-7)) E dX12_first_20 (by decide) ?_
      exact y_iret E dX12_first_22 hv
  · replace hv := ite_t hv c3
    refine y_bipush (v := (-5)) E dX12_first_8 (by decide) ?_
    exact y_iret E dX12_first_10 hv
theorem dX12_wait_0 : decode cX12_wait 0 = .ok (.aload_n 0, 1) := by decide +kernel
theorem dX12_wait_1 : decode cX12_wait 1 = .ok (.iload_n 1, 1) := by decide +kernel
theorem dX12_wait_2 : decode cX12_wait 2 = .ok (.invokevirtual 178, 3) := by decide +kernel
theorem dX12_wait_5 : decode cX12_wait 5 = .ok (.ifCond .ne 6, 3) := by decide +kernel
theorem dX12_wait_8 : decode cX12_wait 8 = .ok (.bipush (-5), 2) := by decide +kernel
theorem dX12_wait_10 : decode cX12_wait 10 = .ok (.ireturn, 1) := by decide +kernel
theorem dX12_wait_11 : decode cX12_wait 11 = .ok (.iload_n 2, 1) := by decide +kernel
theorem dX12_wait_12 : decode cX12_wait 12 = .ok (.iconst 0, 1) := by decide +kernel
theorem dX12_wait_13 : decode cX12_wait 13 = .ok (.iconst 1, 1) := by decide +kernel
theorem dX12_wait_14 : decode cX12_wait 14 = .ok (.invokestatic 75, 3) := by decide +kernel
theorem dX12_wait_17 : decode cX12_wait 17 = .ok (.ifCond .ne 6, 3) := by decide +kernel
theorem dX12_wait_20 : decode cX12_wait 20 = .ok (.bipush (-7), 2) := by decide +kernel
theorem dX12_wait_22 : decode cX12_wait 22 = .ok (.ireturn, 1) := by decide +kernel
theorem dX12_wait_23 : decode cX12_wait 23 = .ok (.iconst (-1), 1) := by decide +kernel
theorem dX12_wait_24 : decode cX12_wait 24 = .ok (.istore_n 3, 1) := by decide +kernel
theorem dX12_wait_25 : decode cX12_wait 25 = .ok (.iconst (-1), 1) := by decide +kernel
theorem dX12_wait_26 : decode cX12_wait 26 = .ok (.istore 4, 2) := by decide +kernel
theorem dX12_wait_28 : decode cX12_wait 28 = .ok (.iconst 0, 1) := by decide +kernel
theorem dX12_wait_29 : decode cX12_wait 29 = .ok (.istore 5, 2) := by decide +kernel
theorem dX12_wait_31 : decode cX12_wait 31 = .ok (.iload 5, 2) := by decide +kernel
theorem dX12_wait_33 : decode cX12_wait 33 = .ok (.bipush 30, 2) := by decide +kernel
theorem dX12_wait_35 : decode cX12_wait 35 = .ok (.if_icmp .ge 96, 3) := by decide +kernel
theorem dX12_wait_38 : decode cX12_wait 38 = .ok (.aload_n 0, 1) := by decide +kernel
theorem dX12_wait_39 : decode cX12_wait 39 = .ok (.iload 5, 2) := by decide +kernel
theorem dX12_wait_41 : decode cX12_wait 41 = .ok (.invokevirtual 175, 3) := by decide +kernel
theorem dX12_wait_44 : decode cX12_wait 44 = .ok (.ifCond .eq 81, 3) := by decide +kernel
theorem dX12_wait_47 : decode cX12_wait 47 = .ok (.iload 5, 2) := by decide +kernel
theorem dX12_wait_49 : decode cX12_wait 49 = .ok (.aload_n 0, 1) := by decide +kernel
theorem dX12_wait_50 : decode cX12_wait 50 = .ok (.getfield 19, 3) := by decide +kernel
theorem dX12_wait_53 : decode cX12_wait 53 = .ok (.iload_n 1, 1) := by decide +kernel
theorem dX12_wait_54 : decode cX12_wait 54 = .ok (.iaload, 1) := by decide +kernel
theorem dX12_wait_55 : decode cX12_wait 55 = .ok (.if_icmp .eq 70, 3) := by decide +kernel
theorem dX12_wait_58 : decode cX12_wait 58 = .ok (.aload_n 0, 1) := by decide +kernel
theorem dX12_wait_59 : decode cX12_wait 59 = .ok (.iload 5, 2) := by decide +kernel
theorem dX12_wait_61 : decode cX12_wait 61 = .ok (.invokevirtual 215, 3) := by decide +kernel
theorem dX12_wait_64 : decode cX12_wait 64 = .ok (.aload_n 0, 1) := by decide +kernel
theorem dX12_wait_65 : decode cX12_wait 65 = .ok (.iload 5, 2) := by decide +kernel
theorem dX12_wait_67 : decode cX12_wait 67 = .ok (.iload_n 1, 1) := by decide +kernel
theorem dX12_wait_68 : decode cX12_wait 68 = .ok (.invokevirtual 218, 3) := by decide +kernel
theorem dX12_wait_71 : decode cX12_wait 71 = .ok (.istore 6, 2) := by decide +kernel
theorem dX12_wait_73 : decode cX12_wait 73 = .ok (.iload 6, 2) := by decide +kernel
theorem dX12_wait_75 : decode cX12_wait 75 = .ok (.iconst (-1), 1) := by decide +kernel
theorem dX12_wait_76 : decode cX12_wait 76 = .ok (.if_icmp .eq 20, 3) := by decide +kernel
theorem dX12_wait_79 : decode cX12_wait 79 = .ok (.iload 4, 2) := by decide +kernel
theorem dX12_wait_81 : decode cX12_wait 81 = .ok (.iconst (-1), 1) := by decide +kernel
theorem dX12_wait_82 : decode cX12_wait 82 = .ok (.if_icmp .eq 10, 3) := by decide +kernel
theorem dX12_wait_85 : decode cX12_wait 85 = .ok (.iload 6, 2) := by decide +kernel
theorem dX12_wait_87 : decode cX12_wait 87 = .ok (.iload 4, 2) := by decide +kernel
theorem dX12_wait_89 : decode cX12_wait 89 = .ok (.if_icmp .ge 7, 3) := by decide +kernel
theorem dX12_wait_92 : decode cX12_wait 92 = .ok (.iconst 1, 1) := by decide +kernel
theorem dX12_wait_93 : decode cX12_wait 93 = .ok (.goto 4, 3) := by decide +kernel
theorem dX12_wait_96 : decode cX12_wait 96 = .ok (.iconst 0, 1) := by decide +kernel
theorem dX12_wait_97 : decode cX12_wait 97 = .ok (.istore 7, 2) := by decide +kernel
theorem dX12_wait_99 : decode cX12_wait 99 = .ok (.iload 7, 2) := by decide +kernel
theorem dX12_wait_101 : decode cX12_wait 101 = .ok (.ifCond .eq 8, 3) := by decide +kernel
theorem dX12_wait_104 : decode cX12_wait 104 = .ok (.iload 5, 2) := by decide +kernel
theorem dX12_wait_106 : decode cX12_wait 106 = .ok (.goto 4, 3) := by decide +kernel
theorem dX12_wait_109 : decode cX12_wait 109 = .ok (.iload_n 3, 1) := by decide +kernel
theorem dX12_wait_110 : decode cX12_wait 110 = .ok (.istore_n 3, 1) := by decide +kernel
theorem dX12_wait_111 : decode cX12_wait 111 = .ok (.iload 7, 2) := by decide +kernel
theorem dX12_wait_113 : decode cX12_wait 113 = .ok (.ifCond .eq 8, 3) := by decide +kernel
theorem dX12_wait_116 : decode cX12_wait 116 = .ok (.iload 6, 2) := by decide +kernel
theorem dX12_wait_118 : decode cX12_wait 118 = .ok (.goto 5, 3) := by decide +kernel
theorem dX12_wait_121 : decode cX12_wait 121 = .ok (.iload 4, 2) := by decide +kernel
theorem dX12_wait_123 : decode cX12_wait 123 = .ok (.istore 4, 2) := by decide +kernel
theorem dX12_wait_125 : decode cX12_wait 125 = .ok (.iinc 5 1, 3) := by decide +kernel
theorem dX12_wait_128 : decode cX12_wait 128 = .ok (.goto (-97), 3) := by decide +kernel
theorem dX12_wait_131 : decode cX12_wait 131 = .ok (.iload_n 2, 1) := by decide +kernel
theorem dX12_wait_132 : decode cX12_wait 132 = .ok (.ifCond .ne 7, 3) := by decide +kernel
theorem dX12_wait_135 : decode cX12_wait 135 = .ok (.iload_n 3, 1) := by decide +kernel
theorem dX12_wait_136 : decode cX12_wait 136 = .ok (.goto 5, 3) := by decide +kernel
theorem dX12_wait_139 : decode cX12_wait 139 = .ok (.iload 4, 2) := by decide +kernel
theorem dX12_wait_141 : decode cX12_wait 141 = .ok (.ireturn, 1) := by decide +kernel
set_option maxRecDepth 100000 in
set_option maxHeartbeats 4000000 in
theorem kX12_wait (l : Launch) (w : wT) (hw : yOk w 20) (σ : Hp) (a1 : Int32) (a2 : Int32) (K : Int32 → Hp → Prop) (hv : VX12_wait K σ a1 a2) : yMet l w mcf 20 yX12_wait cX12_wait 8 (some .int) 6 [.ref (w.1 0), .int a1, .int a2] σ (yQi w mcf 20 K) := by
  unfold VX12_wait at hv
  refine y_start (lv0 := [(0, .ref (w.1 0)), (1, .int a1), (2, .int a2)]) (by decide +kernel) (own := RX12) rfl hw (Nat.le_of_ble_eq_true rfl) rfl (fun p e s m below meth c A E => ?_)
  have hL31 : ∀ (n31 : Nat) (σ : Hp) (l1 : Int32) (l2 : Int32) (l3 : Int32) (l4 : Int32) (l5 : Int32), VX12_wait_L31 K n31 σ l1 l2 l3 l4 l5 → YY p l e (yRm 6) s m [.ref (w.1 0), .int a1, .int a2].toArray below meth c w mcf 20 A (MQ below (yQi w mcf 20 K A) [.ref (w.1 0), .int a1, .int a2].toArray s 0 0 A) 8 σ 31 [(0, .ref (w.1 0)), (1, .int l1), (2, .int l2), (3, .int l3), (4, .int l4), (5, .int l5)] [] := by
    intro n31
    induction n31 with
    | zero => exact fun _ _ _ _ _ _ hv => (by unfold VX12_wait_L31 at hv; exact hv.elim)
    | succ n31 ih31 =>
      have hb110 : ∀ (σ : Hp) (l1 : Int32) (l2 : Int32) (l4 : Int32) (l5 : Int32) (l6 : Int32) (l7 : Int32) (s0 : Int32), VX12_wait_b110 K (VX12_wait_L31 K n31) σ l1 l2 l4 l5 l6 l7 s0 → YY p l e (yRm 6) s m [.ref (w.1 0), .int a1, .int a2].toArray below meth c w mcf 20 A (MQ below (yQi w mcf 20 K A) [.ref (w.1 0), .int a1, .int a2].toArray s 0 0 A) 8 σ 110 [(0, .ref (w.1 0)), (1, .int l1), (2, .int l2), (4, .int l4), (5, .int l5), (6, .int l6), (7, .int l7)] [.int s0] := by
        intro σ l1 l2 l4 l5 l6 l7 s0 hv
        unfold VX12_wait_b110 at hv
        refine y_istore_n (lv' := [(3, .int s0), (0, .ref (w.1 0)), (1, .int l1), (2, .int l2), (4, .int l4), (5, .int l5), (6, .int l6), (7, .int l7)]) E dX12_wait_110 (by decide) rfl ?_
        refine y_iload E dX12_wait_111 7 rfl ?_
        refine y_if_eq (tgt := 121) E dX12_wait_113 (by decide) (fun c23 => ?_) (fun c23 => ?_)
        · replace hv := ite_t hv c23
          refine y_iload E dX12_wait_121 4 rfl ?_
          refine y_istore (lv' := [(4, .int l4), (3, .int s0), (0, .ref (w.1 0)), (1, .int l1), (2, .int l2), (5, .int l5), (6, .int l6), (7, .int l7)]) E dX12_wait_123 (by decide) rfl ?_
          obtain ⟨x24, hx24⟩ : ∃ z : Int32, z = l5 + 1 := ⟨_, rfl⟩
          replace hv := hv x24 hx24
          refine y_iinc (v := x24) (lv' := [(5, .int x24), (4, .int l4), (3, .int s0), (0, .ref (w.1 0)), (1, .int l1), (2, .int l2), (6, .int l6), (7, .int l7)]) E dX12_wait_125 5 rfl (by rw [hx24]; rfl) (by decide) rfl ?_
          refine y_goto (tgt := 31) E dX12_wait_128 (by decide) ?_
          refine y_lv (lv' := [(0, .ref (w.1 0)), (1, .int l1), (2, .int l2), (3, .int s0), (4, .int l4), (5, .int x24)]) [3, 4, 5, 2, 1, 0] rfl ?_
          exact ih31 σ l1 l2 s0 l4 x24 hv
        · replace hv := ite_f hv c23
          refine y_iload E dX12_wait_116 6 rfl ?_
          refine y_goto (tgt := 123) E dX12_wait_118 (by decide) ?_
          refine y_istore (lv' := [(4, .int l6), (3, .int s0), (0, .ref (w.1 0)), (1, .int l1), (2, .int l2), (5, .int l5), (6, .int l6), (7, .int l7)]) E dX12_wait_123 (by decide) rfl ?_
          obtain ⟨x25, hx25⟩ : ∃ z : Int32, z = l5 + 1 := ⟨_, rfl⟩
          replace hv := hv x25 hx25
          refine y_iinc (v := x25) (lv' := [(5, .int x25), (4, .int l6), (3, .int s0), (0, .ref (w.1 0)), (1, .int l1), (2, .int l2), (6, .int l6), (7, .int l7)]) E dX12_wait_125 5 rfl (by rw [hx25]; rfl) (by decide) rfl ?_
          refine y_goto (tgt := 31) E dX12_wait_128 (by decide) ?_
          refine y_lv (lv' := [(0, .ref (w.1 0)), (1, .int l1), (2, .int l2), (3, .int s0), (4, .int l6), (5, .int x25)]) [3, 4, 5, 2, 1, 0] rfl ?_
          exact ih31 σ l1 l2 s0 l6 x25 hv
      have hb97 : ∀ (σ : Hp) (l1 : Int32) (l2 : Int32) (l3 : Int32) (l4 : Int32) (l5 : Int32) (l6 : Int32) (s0 : Int32), VX12_wait_b97 K (VX12_wait_L31 K n31) σ l1 l2 l3 l4 l5 l6 s0 → YY p l e (yRm 6) s m [.ref (w.1 0), .int a1, .int a2].toArray below meth c w mcf 20 A (MQ below (yQi w mcf 20 K A) [.ref (w.1 0), .int a1, .int a2].toArray s 0 0 A) 8 σ 97 [(0, .ref (w.1 0)), (1, .int l1), (2, .int l2), (3, .int l3), (4, .int l4), (5, .int l5), (6, .int l6)] [.int s0] := by
        intro σ l1 l2 l3 l4 l5 l6 s0 hv
        unfold VX12_wait_b97 at hv
        refine y_istore (lv' := [(7, .int s0), (0, .ref (w.1 0)), (1, .int l1), (2, .int l2), (3, .int l3), (4, .int l4), (5, .int l5), (6, .int l6)]) E dX12_wait_97 (by decide) rfl ?_
        refine y_iload E dX12_wait_99 0 rfl ?_
        refine y_if_eq (tgt := 109) E dX12_wait_101 (by decide) (fun c22 => ?_) (fun c22 => ?_)
        · replace hv := ite_t hv c22
          refine y_iload_n E dX12_wait_109 4 rfl ?_
          refine y_lv (lv' := [(0, .ref (w.1 0)), (1, .int l1), (2, .int l2), (4, .int l4), (5, .int l5), (6, .int l6), (7, .int s0)]) [1, 2, 3, 5, 6, 7, 0] rfl ?_
          exact hb110 σ l1 l2 l4 l5 l6 s0 l3 hv
        · replace hv := ite_f hv c22
          refine y_iload E dX12_wait_104 6 rfl ?_
          refine y_goto (tgt := 110) E dX12_wait_106 (by decide) ?_
          refine y_lv (lv' := [(0, .ref (w.1 0)), (1, .int l1), (2, .int l2), (4, .int l4), (5, .int l5), (6, .int l6), (7, .int s0)]) [1, 2, 3, 5, 6, 7, 0] rfl ?_
          exact hb110 σ l1 l2 l4 l5 l6 s0 l5 hv
      intro σ l1 l2 l3 l4 l5 hv
      unfold VX12_wait_L31 at hv
      refine y_iload E dX12_wait_31 5 rfl ?_
      refine y_bipush (v := 30) E dX12_wait_33 (by decide) ?_
      refine y_icmp_ge (tgt := 131) E dX12_wait_35 (by decide) (fun c7 => ?_) (fun c7 => ?_)
      · replace hv := ite_t hv c7
        refine y_iload_n E dX12_wait_131 2 rfl ?_
        refine y_if_ne (tgt := 139) E dX12_wait_132 (by decide) (fun c8 => ?_) (fun c8 => ?_)
        · replace hv := ite_f hv c8
          refine y_iload E dX12_wait_139 4 rfl ?_
          exact y_iret E dX12_wait_141 hv
        · replace hv := ite_t hv c8
          refine y_iload_n E dX12_wait_135 3 rfl ?_
          refine y_goto (tgt := 141) E dX12_wait_136 (by decide) ?_
          exact y_iret E dX12_wait_141 hv
      · replace hv := ite_f hv c7
        refine y_aload_n E dX12_wait_38 0 rfl ?_
        refine y_iload E dX12_wait_39 5 rfl ?_
        refine y_calli E (y_runV E (rest := []) (kX12_isFree l w E.2.2.1 σ l5 _ hv) (y_cwV 1 E.1.2.2.2.2 wm_570 wm_574 wm_575 wm_479 wm_576 (by decide +kernel) (yRm_le (by decide) (by decide))) (Nat.lt_of_lt_of_le (show 0 < 1 by decide) (by decide)) (mc_X12 (by decide) (by decide)) rfl rfl rfl (Nat.le_of_ble_eq_true rfl) dX12_wait_41) (fun v9 u10 hk => ?_)
        clear hv
        have hv := hk
        clear hk
        refine y_if_eq (tgt := 125) E dX12_wait_44 (by decide) (fun c11 => ?_) (fun c11 => ?_)
        · replace hv := ite_t hv c11
          obtain ⟨x12, hx12⟩ : ∃ z : Int32, z = l5 + 1 := ⟨_, rfl⟩
          replace hv := hv x12 hx12
          refine y_iinc (v := x12) (lv' := [(5, .int x12), (0, .ref (w.1 0)), (1, .int l1), (2, .int l2), (3, .int l3), (4, .int l4)]) E dX12_wait_125 5 rfl (by rw [hx12]; rfl) (by decide) rfl ?_
          refine y_goto (tgt := 31) E dX12_wait_128 (by decide) ?_
          refine y_lv (lv' := [(0, .ref (w.1 0)), (1, .int l1), (2, .int l2), (3, .int l3), (4, .int l4), (5, .int x12)]) [1, 2, 3, 4, 5, 0] rfl ?_
          exact ih31 u10 l1 l2 l3 l4 x12 hv
        · replace hv := ite_f hv c11
          refine y_iload E dX12_wait_47 5 rfl ?_
          refine y_aload_n E dX12_wait_49 0 rfl ?_
          refine gf_X12_5 E (by decide) (by decide) wm_490 dX12_wait_50 ?_
          refine y_iload_n E dX12_wait_53 1 rfl ?_
          obtain ⟨hi, hv⟩ := hv
          refine y_iald E (Nat.lt_of_lt_of_le (show 4 < 5 by decide) (by decide)) (mc_m_cellOf (by decide) (by decide)) hi dX12_wait_54 ?_
          refine y_icmp_eq (tgt := 125) E dX12_wait_55 (by decide) (fun c13 => ?_) (fun c13 => ?_)
          · replace hv := ite_t hv c13
            obtain ⟨x14, hx14⟩ : ∃ z : Int32, z = l5 + 1 := ⟨_, rfl⟩
            replace hv := hv x14 hx14
            refine y_iinc (v := x14) (lv' := [(5, .int x14), (0, .ref (w.1 0)), (1, .int l1), (2, .int l2), (3, .int l3), (4, .int l4)]) E dX12_wait_125 5 rfl (by rw [hx14]; rfl) (by decide) rfl ?_
            refine y_goto (tgt := 31) E dX12_wait_128 (by decide) ?_
            refine y_lv (lv' := [(0, .ref (w.1 0)), (1, .int l1), (2, .int l2), (3, .int l3), (4, .int l4), (5, .int x14)]) [1, 2, 3, 4, 5, 0] rfl ?_
            exact ih31 u10 l1 l2 l3 l4 x14 hv
          · replace hv := ite_f hv c13
            refine y_aload_n E dX12_wait_58 0 rfl ?_
            refine y_iload E dX12_wait_59 5 rfl ?_
            refine y_callv E (y_runV E (rest := []) (kX12_spreads l w E.2.2.1 u10 l5 _ hv) (y_cwV 1 E.1.2.2.2.2 wm_618 wm_623 wm_624 wm_479 wm_625 (by decide +kernel) (yRm_le (by decide) (by decide))) (Nat.lt_of_lt_of_le (show 0 < 1 by decide) (by decide)) (mc_X12 (by decide) (by decide)) rfl rfl rfl (Nat.le_of_ble_eq_true rfl) dX12_wait_61) (fun u16 hk => ?_)
            clear hv
            have hv := hk
            clear hk
            refine y_aload_n E dX12_wait_64 0 rfl ?_
            refine y_iload E dX12_wait_65 5 rfl ?_
            refine y_iload_n E dX12_wait_67 1 rfl ?_
            refine y_calli E (y_runV E (rest := []) (kX12_soonest l w E.2.2.1 u16 l5 l1 _ hv) (y_cwV 2 E.1.2.2.2.2 wm_619 wm_620 wm_621 wm_479 wm_622 (by decide +kernel) (yRm_le (by decide) (by decide))) (Nat.lt_of_lt_of_le (show 0 < 1 by decide) (by decide)) (mc_X12 (by decide) (by decide)) rfl rfl rfl (Nat.le_of_ble_eq_true rfl) dX12_wait_68) (fun v17 u18 hk => ?_)
            clear hv
            have hv := hk
            clear hk
            refine y_istore (lv' := [(6, .int v17), (0, .ref (w.1 0)), (1, .int l1), (2, .int l2), (3, .int l3), (4, .int l4), (5, .int l5)]) E dX12_wait_71 (by decide) rfl ?_
            refine y_iload E dX12_wait_73 0 rfl ?_
            refine y_iconst (v := (-1)) E dX12_wait_75 (by decide) ?_
            refine y_icmp_eq (tgt := 96) E dX12_wait_76 (by decide) (fun c19 => ?_) (fun c19 => ?_)
            · replace hv := ite_t hv c19
              refine y_iconst (v := 0) E dX12_wait_96 (by decide) ?_
              refine y_lv (lv' := [(0, .ref (w.1 0)), (1, .int l1), (2, .int l2), (3, .int l3), (4, .int l4), (5, .int l5), (6, .int v17)]) [1, 2, 3, 4, 5, 6, 0] rfl ?_
              exact hb97 u18 l1 l2 l3 l4 l5 v17 0 hv
            · replace hv := ite_f hv c19
              refine y_iload E dX12_wait_79 5 rfl ?_
              refine y_iconst (v := (-1)) E dX12_wait_81 (by decide) ?_
              refine y_icmp_eq (tgt := 92) E dX12_wait_82 (by decide) (fun c20 => ?_) (fun c20 => ?_)
              · replace hv := ite_t hv c20
                refine y_iconst (v := 1) E dX12_wait_92 (by decide) ?_
                refine y_goto (tgt := 97) E dX12_wait_93 (by decide) ?_
                refine y_lv (lv' := [(0, .ref (w.1 0)), (1, .int l1), (2, .int l2), (3, .int l3), (4, .int l4), (5, .int l5), (6, .int v17)]) [1, 2, 3, 4, 5, 6, 0] rfl ?_
                exact hb97 u18 l1 l2 l3 l4 l5 v17 1 hv
              · replace hv := ite_f hv c20
                refine y_iload E dX12_wait_85 0 rfl ?_
                refine y_iload E dX12_wait_87 5 rfl ?_
                refine y_icmp_ge (tgt := 96) E dX12_wait_89 (by decide) (fun c21 => ?_) (fun c21 => ?_)
                · replace hv := ite_t hv c21
                  refine y_iconst (v := 0) E dX12_wait_96 (by decide) ?_
                  refine y_lv (lv' := [(0, .ref (w.1 0)), (1, .int l1), (2, .int l2), (3, .int l3), (4, .int l4), (5, .int l5), (6, .int v17)]) [1, 2, 3, 4, 5, 6, 0] rfl ?_
                  exact hb97 u18 l1 l2 l3 l4 l5 v17 0 hv
                · replace hv := ite_f hv c21
                  refine y_iconst (v := 1) E dX12_wait_92 (by decide) ?_
                  refine y_goto (tgt := 97) E dX12_wait_93 (by decide) ?_
                  refine y_lv (lv' := [(0, .ref (w.1 0)), (1, .int l1), (2, .int l2), (3, .int l3), (4, .int l4), (5, .int l5), (6, .int v17)]) [1, 2, 3, 4, 5, 6, 0] rfl ?_
                  exact hb97 u18 l1 l2 l3 l4 l5 v17 1 hv
  refine y_aload_n E dX12_wait_0 0 rfl ?_
  refine y_iload_n E dX12_wait_1 1 rfl ?_
  refine y_calli E (y_runV E (rest := []) (kX12_isThing l w E.2.2.1 σ a1 _ hv) (y_cwV 1 E.1.2.2.2.2 wm_577 wm_578 wm_579 wm_479 wm_580 (by decide +kernel) (yRm_le (by decide) (by decide))) (Nat.lt_of_lt_of_le (show 0 < 1 by decide) (by decide)) (mc_X12 (by decide) (by decide)) rfl rfl rfl (Nat.le_of_ble_eq_true rfl) dX12_wait_2) (fun v1 u2 hk => ?_)
  clear hv
  have hv := hk
  clear hk
  refine y_if_ne (tgt := 11) E dX12_wait_5 (by decide) (fun c3 => ?_) (fun c3 => ?_)
  · replace hv := ite_f hv c3
    refine y_iload_n E dX12_wait_11 2 rfl ?_
    refine y_iconst (v := 0) E dX12_wait_12 (by decide) ?_
    refine y_iconst (v := 1) E dX12_wait_13 (by decide) ?_
    refine y_calli E (y_runS E (rest := []) (kX12_in l w E.2.2.1 u2 a2 0 1 _ hv) (y_cwS 3 E.1.2.2.2.2 wm_477 wm_478 wm_479 wm_480 (by decide +kernel) (yRm_le (by decide) (by decide))) rfl rfl (Nat.le_of_ble_eq_true rfl) dX12_wait_14) (fun v4 u5 hk => ?_)
    clear hv
    have hv := hk
    clear hk
    refine y_if_ne (tgt := 23) E dX12_wait_17 (by decide) (fun c6 => ?_) (fun c6 => ?_)
    · replace hv := ite_f hv c6
      refine y_iconst (v := (-1)) E dX12_wait_23 (by decide) ?_
      refine y_istore_n (lv' := [(3, .int (-1)), (0, .ref (w.1 0)), (1, .int a1), (2, .int a2)]) E dX12_wait_24 (by decide) rfl ?_
      refine y_iconst (v := (-1)) E dX12_wait_25 (by decide) ?_
      refine y_istore (lv' := [(4, .int (-1)), (3, .int (-1)), (0, .ref (w.1 0)), (1, .int a1), (2, .int a2)]) E dX12_wait_26 (by decide) rfl ?_
      refine y_iconst (v := 0) E dX12_wait_28 (by decide) ?_
      refine y_istore (lv' := [(5, .int 0), (4, .int (-1)), (3, .int (-1)), (0, .ref (w.1 0)), (1, .int a1), (2, .int a2)]) E dX12_wait_29 (by decide) rfl ?_
      refine y_lv (lv' := [(0, .ref (w.1 0)), (1, .int a1), (2, .int a2), (3, .int (-1)), (4, .int (-1)), (5, .int 0)]) [3, 4, 5, 2, 1, 0] rfl ?_
      obtain ⟨n0, hv⟩ := hv
      exact hL31 n0 u5 a1 a2 (-1) (-1) 0 hv
    · replace hv := ite_t hv c6
      refine y_bipush (v := (-7)) E dX12_wait_20 (by decide) ?_
      exact y_iret E dX12_wait_22 hv
  · replace hv := ite_t hv c3
    refine y_bipush (v := (-5)) E dX12_wait_8 (by decide) ?_
    exact y_iret E dX12_wait_10 hv
theorem dX12_toss_0 : decode cX12_toss 0 = .ok (.aload_n 0, 1) := by decide +kernel
theorem dX12_toss_1 : decode cX12_toss 1 = .ok (.iload_n 1, 1) := by decide +kernel
theorem dX12_toss_2 : decode cX12_toss 2 = .ok (.invokevirtual 178, 3) := by decide +kernel
theorem dX12_toss_5 : decode cX12_toss 5 = .ok (.ifCond .ne 6, 3) := by decide +kernel
theorem dX12_toss_8 : decode cX12_toss 8 = .ok (.bipush (-5), 2) := by decide +kernel
theorem dX12_toss_10 : decode cX12_toss 10 = .ok (.ireturn, 1) := by decide +kernel
theorem dX12_toss_11 : decode cX12_toss 11 = .ok (.iload_n 2, 1) := by decide +kernel
theorem dX12_toss_12 : decode cX12_toss 12 = .ok (.ifCond .lt 33, 3) := by decide +kernel
theorem dX12_toss_15 : decode cX12_toss 15 = .ok (.aload_n 0, 1) := by decide +kernel
theorem dX12_toss_16 : decode cX12_toss 16 = .ok (.iload_n 2, 1) := by decide +kernel
theorem dX12_toss_17 : decode cX12_toss 17 = .ok (.bipush 100, 2) := by decide +kernel
theorem dX12_toss_19 : decode cX12_toss 19 = .ok (.idiv, 1) := by decide +kernel
theorem dX12_toss_20 : decode cX12_toss 20 = .ok (.invokevirtual 175, 3) := by decide +kernel
theorem dX12_toss_23 : decode cX12_toss 23 = .ok (.ifCond .eq 22, 3) := by decide +kernel
theorem dX12_toss_26 : decode cX12_toss 26 = .ok (.iload_n 2, 1) := by decide +kernel
theorem dX12_toss_27 : decode cX12_toss 27 = .ok (.bipush 100, 2) := by decide +kernel
theorem dX12_toss_29 : decode cX12_toss 29 = .ok (.irem, 1) := by decide +kernel
theorem dX12_toss_30 : decode cX12_toss 30 = .ok (.invokestatic 79, 3) := by decide +kernel
theorem dX12_toss_33 : decode cX12_toss 33 = .ok (.ifCond .eq 12, 3) := by decide +kernel
theorem dX12_toss_36 : decode cX12_toss 36 = .ok (.iload_n 3, 1) := by decide +kernel
theorem dX12_toss_37 : decode cX12_toss 37 = .ok (.iconst 0, 1) := by decide +kernel
theorem dX12_toss_38 : decode cX12_toss 38 = .ok (.iconst 1, 1) := by decide +kernel
theorem dX12_toss_39 : decode cX12_toss 39 = .ok (.invokestatic 75, 3) := by decide +kernel
theorem dX12_toss_42 : decode cX12_toss 42 = .ok (.ifCond .ne 6, 3) := by decide +kernel
theorem dX12_toss_45 : decode cX12_toss 45 = .ok (.bipush (-7), 2) := by decide +kernel
theorem dX12_toss_47 : decode cX12_toss 47 = .ok (.ireturn, 1) := by decide +kernel
theorem dX12_toss_48 : decode cX12_toss 48 = .ok (.iconst (-1), 1) := by decide +kernel
theorem dX12_toss_49 : decode cX12_toss 49 = .ok (.istore 4, 2) := by decide +kernel
theorem dX12_toss_51 : decode cX12_toss 51 = .ok (.iconst (-1), 1) := by decide +kernel
theorem dX12_toss_52 : decode cX12_toss 52 = .ok (.istore 5, 2) := by decide +kernel
theorem dX12_toss_54 : decode cX12_toss 54 = .ok (.iconst 0, 1) := by decide +kernel
theorem dX12_toss_55 : decode cX12_toss 55 = .ok (.istore 6, 2) := by decide +kernel
theorem dX12_toss_57 : decode cX12_toss 57 = .ok (.iload 6, 2) := by decide +kernel
theorem dX12_toss_59 : decode cX12_toss 59 = .ok (.iconst 4, 1) := by decide +kernel
theorem dX12_toss_60 : decode cX12_toss 60 = .ok (.if_icmp .ge 88, 3) := by decide +kernel
theorem dX12_toss_63 : decode cX12_toss 63 = .ok (.aload_n 0, 1) := by decide +kernel
theorem dX12_toss_64 : decode cX12_toss 64 = .ok (.iload_n 2, 1) := by decide +kernel
theorem dX12_toss_65 : decode cX12_toss 65 = .ok (.bipush 100, 2) := by decide +kernel
theorem dX12_toss_67 : decode cX12_toss 67 = .ok (.idiv, 1) := by decide +kernel
theorem dX12_toss_68 : decode cX12_toss 68 = .ok (.putfield 181, 3) := by decide +kernel
theorem dX12_toss_71 : decode cX12_toss 71 = .ok (.aload_n 0, 1) := by decide +kernel
theorem dX12_toss_72 : decode cX12_toss 72 = .ok (.iload 6, 2) := by decide +kernel
theorem dX12_toss_74 : decode cX12_toss 74 = .ok (.putfield 184, 3) := by decide +kernel
theorem dX12_toss_77 : decode cX12_toss 77 = .ok (.aload_n 0, 1) := by decide +kernel
theorem dX12_toss_78 : decode cX12_toss 78 = .ok (.iload_n 1, 1) := by decide +kernel
theorem dX12_toss_79 : decode cX12_toss 79 = .ok (.iload_n 2, 1) := by decide +kernel
theorem dX12_toss_80 : decode cX12_toss 80 = .ok (.bipush 100, 2) := by decide +kernel
theorem dX12_toss_82 : decode cX12_toss 82 = .ok (.irem, 1) := by decide +kernel
theorem dX12_toss_83 : decode cX12_toss 83 = .ok (.invokevirtual 212, 3) := by decide +kernel
theorem dX12_toss_86 : decode cX12_toss 86 = .ok (.istore 7, 2) := by decide +kernel
theorem dX12_toss_88 : decode cX12_toss 88 = .ok (.iload 7, 2) := by decide +kernel
theorem dX12_toss_90 : decode cX12_toss 90 = .ok (.iconst (-1), 1) := by decide +kernel
theorem dX12_toss_91 : decode cX12_toss 91 = .ok (.if_icmp .eq 20, 3) := by decide +kernel
theorem dX12_toss_94 : decode cX12_toss 94 = .ok (.iload 5, 2) := by decide +kernel
theorem dX12_toss_96 : decode cX12_toss 96 = .ok (.iconst (-1), 1) := by decide +kernel
theorem dX12_toss_97 : decode cX12_toss 97 = .ok (.if_icmp .eq 10, 3) := by decide +kernel
theorem dX12_toss_100 : decode cX12_toss 100 = .ok (.iload 7, 2) := by decide +kernel
theorem dX12_toss_102 : decode cX12_toss 102 = .ok (.iload 5, 2) := by decide +kernel
theorem dX12_toss_104 : decode cX12_toss 104 = .ok (.if_icmp .ge 7, 3) := by decide +kernel
theorem dX12_toss_107 : decode cX12_toss 107 = .ok (.iconst 1, 1) := by decide +kernel
theorem dX12_toss_108 : decode cX12_toss 108 = .ok (.goto 4, 3) := by decide +kernel
theorem dX12_toss_111 : decode cX12_toss 111 = .ok (.iconst 0, 1) := by decide +kernel
theorem dX12_toss_112 : decode cX12_toss 112 = .ok (.istore 8, 2) := by decide +kernel
theorem dX12_toss_114 : decode cX12_toss 114 = .ok (.iload 8, 2) := by decide +kernel
theorem dX12_toss_116 : decode cX12_toss 116 = .ok (.ifCond .eq 8, 3) := by decide +kernel
theorem dX12_toss_119 : decode cX12_toss 119 = .ok (.iload 6, 2) := by decide +kernel
theorem dX12_toss_121 : decode cX12_toss 121 = .ok (.goto 5, 3) := by decide +kernel
theorem dX12_toss_124 : decode cX12_toss 124 = .ok (.iload 4, 2) := by decide +kernel
theorem dX12_toss_126 : decode cX12_toss 126 = .ok (.istore 4, 2) := by decide +kernel
theorem dX12_toss_128 : decode cX12_toss 128 = .ok (.iload 8, 2) := by decide +kernel
theorem dX12_toss_130 : decode cX12_toss 130 = .ok (.ifCond .eq 8, 3) := by decide +kernel
theorem dX12_toss_133 : decode cX12_toss 133 = .ok (.iload 7, 2) := by decide +kernel
theorem dX12_toss_135 : decode cX12_toss 135 = .ok (.goto 5, 3) := by decide +kernel
theorem dX12_toss_138 : decode cX12_toss 138 = .ok (.iload 5, 2) := by decide +kernel
theorem dX12_toss_140 : decode cX12_toss 140 = .ok (.istore 5, 2) := by decide +kernel
theorem dX12_toss_142 : decode cX12_toss 142 = .ok (.iinc 6 1, 3) := by decide +kernel
theorem dX12_toss_145 : decode cX12_toss 145 = .ok (.goto (-88), 3) := by decide +kernel
theorem dX12_toss_148 : decode cX12_toss 148 = .ok (.iload_n 3, 1) := by decide +kernel
theorem dX12_toss_149 : decode cX12_toss 149 = .ok (.ifCond .ne 8, 3) := by decide +kernel
theorem dX12_toss_152 : decode cX12_toss 152 = .ok (.iload 4, 2) := by decide +kernel
theorem dX12_toss_154 : decode cX12_toss 154 = .ok (.goto 5, 3) := by decide +kernel
theorem dX12_toss_157 : decode cX12_toss 157 = .ok (.iload 5, 2) := by decide +kernel
theorem dX12_toss_159 : decode cX12_toss 159 = .ok (.ireturn, 1) := by decide +kernel
set_option maxRecDepth 100000 in
set_option maxHeartbeats 4000000 in
theorem kX12_toss (l : Launch) (w : wT) (hw : yOk w 20) (σ : Hp) (a1 : Int32) (a2 : Int32) (a3 : Int32) (K : Int32 → Hp → Prop) (hv : VX12_toss K σ a1 a2 a3) : yMet l w mcf 20 yX12_toss cX12_toss 9 (some .int) 6 [.ref (w.1 0), .int a1, .int a2, .int a3] σ (yQi w mcf 20 K) := by
  unfold VX12_toss at hv
  refine y_start (lv0 := [(0, .ref (w.1 0)), (1, .int a1), (2, .int a2), (3, .int a3)]) (by decide +kernel) (own := RX12) rfl hw (Nat.le_of_ble_eq_true rfl) rfl (fun p e s m below meth c A E => ?_)
  have hL57 : ∀ (n57 : Nat) (σ : Hp) (l1 : Int32) (l2 : Int32) (l3 : Int32) (l4 : Int32) (l5 : Int32) (l6 : Int32), VX12_toss_L57 K n57 σ l1 l2 l3 l4 l5 l6 → YY p l e (yRm 6) s m [.ref (w.1 0), .int a1, .int a2, .int a3].toArray below meth c w mcf 20 A (MQ below (yQi w mcf 20 K A) [.ref (w.1 0), .int a1, .int a2, .int a3].toArray s 0 0 A) 9 σ 57 [(0, .ref (w.1 0)), (1, .int l1), (2, .int l2), (3, .int l3), (4, .int l4), (5, .int l5), (6, .int l6)] [] := by
    intro n57
    induction n57 with
    | zero => exact fun _ _ _ _ _ _ _ hv => (by unfold VX12_toss_L57 at hv; exact hv.elim)
    | succ n57 ih57 =>
      have hb126 : ∀ (σ : Hp) (l1 : Int32) (l2 : Int32) (l3 : Int32) (l5 : Int32) (l6 : Int32) (l7 : Int32) (l8 : Int32) (s0 : Int32), VX12_toss_b126 K (VX12_toss_L57 K n57) σ l1 l2 l3 l5 l6 l7 l8 s0 → YY p l e (yRm 6) s m [.ref (w.1 0), .int a1, .int a2, .int a3].toArray below meth c w mcf 20 A (MQ below (yQi w mcf 20 K A) [.ref (w.1 0), .int a1, .int a2, .int a3].toArray s 0 0 A) 9 σ 126 [(0, .ref (w.1 0)), (1, .int l1), (2, .int l2), (3, .int l3), (5, .int l5), (6, .int l6), (7, .int l7), (8, .int l8)] [.int s0] := by
        intro σ l1 l2 l3 l5 l6 l7 l8 s0 hv
        unfold VX12_toss_b126 at hv
        refine y_istore (lv' := [(4, .int s0), (0, .ref (w.1 0)), (1, .int l1), (2, .int l2), (3, .int l3), (5, .int l5), (6, .int l6), (7, .int l7), (8, .int l8)]) E dX12_toss_126 (by decide) rfl ?_
        refine y_iload E dX12_toss_128 8 rfl ?_
        refine y_if_eq (tgt := 138) E dX12_toss_130 (by decide) (fun c24 => ?_) (fun c24 => ?_)
        · replace hv := ite_t hv c24
          refine y_iload E dX12_toss_138 5 rfl ?_
          refine y_istore (lv' := [(5, .int l5), (4, .int s0), (0, .ref (w.1 0)), (1, .int l1), (2, .int l2), (3, .int l3), (6, .int l6), (7, .int l7), (8, .int l8)]) E dX12_toss_140 (by decide) rfl ?_
          obtain ⟨x25, hx25⟩ : ∃ z : Int32, z = l6 + 1 := ⟨_, rfl⟩
          replace hv := hv x25 hx25
          refine y_iinc (v := x25) (lv' := [(6, .int x25), (5, .int l5), (4, .int s0), (0, .ref (w.1 0)), (1, .int l1), (2, .int l2), (3, .int l3), (7, .int l7), (8, .int l8)]) E dX12_toss_142 6 rfl (by rw [hx25]; rfl) (by decide) rfl ?_
          refine y_goto (tgt := 57) E dX12_toss_145 (by decide) ?_
          refine y_lv (lv' := [(0, .ref (w.1 0)), (1, .int l1), (2, .int l2), (3, .int l3), (4, .int s0), (5, .int l5), (6, .int x25)]) [3, 4, 5, 6, 2, 1, 0] rfl ?_
          exact ih57 σ l1 l2 l3 s0 l5 x25 hv
        · replace hv := ite_f hv c24
          refine y_iload E dX12_toss_133 7 rfl ?_
          refine y_goto (tgt := 140) E dX12_toss_135 (by decide) ?_
          refine y_istore (lv' := [(5, .int l7), (4, .int s0), (0, .ref (w.1 0)), (1, .int l1), (2, .int l2), (3, .int l3), (6, .int l6), (7, .int l7), (8, .int l8)]) E dX12_toss_140 (by decide) rfl ?_
          obtain ⟨x26, hx26⟩ : ∃ z : Int32, z = l6 + 1 := ⟨_, rfl⟩
          replace hv := hv x26 hx26
          refine y_iinc (v := x26) (lv' := [(6, .int x26), (5, .int l7), (4, .int s0), (0, .ref (w.1 0)), (1, .int l1), (2, .int l2), (3, .int l3), (7, .int l7), (8, .int l8)]) E dX12_toss_142 6 rfl (by rw [hx26]; rfl) (by decide) rfl ?_
          refine y_goto (tgt := 57) E dX12_toss_145 (by decide) ?_
          refine y_lv (lv' := [(0, .ref (w.1 0)), (1, .int l1), (2, .int l2), (3, .int l3), (4, .int s0), (5, .int l7), (6, .int x26)]) [3, 4, 5, 6, 2, 1, 0] rfl ?_
          exact ih57 σ l1 l2 l3 s0 l7 x26 hv
      have hb112 : ∀ (σ : Hp) (l1 : Int32) (l2 : Int32) (l3 : Int32) (l4 : Int32) (l5 : Int32) (l6 : Int32) (l7 : Int32) (s0 : Int32), VX12_toss_b112 K (VX12_toss_L57 K n57) σ l1 l2 l3 l4 l5 l6 l7 s0 → YY p l e (yRm 6) s m [.ref (w.1 0), .int a1, .int a2, .int a3].toArray below meth c w mcf 20 A (MQ below (yQi w mcf 20 K A) [.ref (w.1 0), .int a1, .int a2, .int a3].toArray s 0 0 A) 9 σ 112 [(0, .ref (w.1 0)), (1, .int l1), (2, .int l2), (3, .int l3), (4, .int l4), (5, .int l5), (6, .int l6), (7, .int l7)] [.int s0] := by
        intro σ l1 l2 l3 l4 l5 l6 l7 s0 hv
        unfold VX12_toss_b112 at hv
        refine y_istore (lv' := [(8, .int s0), (0, .ref (w.1 0)), (1, .int l1), (2, .int l2), (3, .int l3), (4, .int l4), (5, .int l5), (6, .int l6), (7, .int l7)]) E dX12_toss_112 (by decide) rfl ?_
        refine y_iload E dX12_toss_114 0 rfl ?_
        refine y_if_eq (tgt := 124) E dX12_toss_116 (by decide) (fun c23 => ?_) (fun c23 => ?_)
        · replace hv := ite_t hv c23
          refine y_iload E dX12_toss_124 5 rfl ?_
          refine y_lv (lv' := [(0, .ref (w.1 0)), (1, .int l1), (2, .int l2), (3, .int l3), (5, .int l5), (6, .int l6), (7, .int l7), (8, .int s0)]) [1, 2, 3, 4, 6, 7, 8, 0] rfl ?_
          exact hb126 σ l1 l2 l3 l5 l6 l7 s0 l4 hv
        · replace hv := ite_f hv c23
          refine y_iload E dX12_toss_119 7 rfl ?_
          refine y_goto (tgt := 126) E dX12_toss_121 (by decide) ?_
          refine y_lv (lv' := [(0, .ref (w.1 0)), (1, .int l1), (2, .int l2), (3, .int l3), (5, .int l5), (6, .int l6), (7, .int l7), (8, .int s0)]) [1, 2, 3, 4, 6, 7, 8, 0] rfl ?_
          exact hb126 σ l1 l2 l3 l5 l6 l7 s0 l6 hv
      intro σ l1 l2 l3 l4 l5 l6 hv
      unfold VX12_toss_L57 at hv
      refine y_iload E dX12_toss_57 6 rfl ?_
      refine y_iconst (v := 4) E dX12_toss_59 (by decide) ?_
      refine y_icmp_ge (tgt := 148) E dX12_toss_60 (by decide) (fun c14 => ?_) (fun c14 => ?_)
      · replace hv := ite_t hv c14
        refine y_iload_n E dX12_toss_148 3 rfl ?_
        refine y_if_ne (tgt := 157) E dX12_toss_149 (by decide) (fun c15 => ?_) (fun c15 => ?_)
        · replace hv := ite_f hv c15
          refine y_iload E dX12_toss_157 5 rfl ?_
          exact y_iret E dX12_toss_159 hv
        · replace hv := ite_t hv c15
          refine y_iload E dX12_toss_152 4 rfl ?_
          refine y_goto (tgt := 159) E dX12_toss_154 (by decide) ?_
          exact y_iret E dX12_toss_159 hv
      · replace hv := ite_f hv c14
        refine y_aload_n E dX12_toss_63 0 rfl ?_
        refine y_iload_n E dX12_toss_64 2 rfl ?_
        refine y_bipush (v := 100) E dX12_toss_65 (by decide) ?_
        refine y_idiv E dX12_toss_67 (by decide) ?_
        refine pf_X12_32 E (by decide) (by decide) wm_581 dX12_toss_68 ?_
        refine y_nmH (fun u16 hu16 => ?_)
        replace hv := hv u16 hu16
        refine y_aload_n E dX12_toss_71 0 rfl ?_
        refine y_iload E dX12_toss_72 6 rfl ?_
        refine pf_X12_33 E (by decide) (by decide) wm_582 dX12_toss_74 ?_
        refine y_nmH (fun u17 hu17 => ?_)
        replace hv := hv u17 hu17
        refine y_aload_n E dX12_toss_77 0 rfl ?_
        refine y_iload_n E dX12_toss_78 1 rfl ?_
        refine y_iload_n E dX12_toss_79 2 rfl ?_
        refine y_bipush (v := 100) E dX12_toss_80 (by decide) ?_
        refine y_irem E dX12_toss_82 (by decide) ?_
        refine y_calli E (y_runV E (rest := []) (kX12_first0 l w E.2.2.1 u17 l1 (jrem l2 100) _ hv) (y_cwV 2 E.1.2.2.2.2 wm_613 wm_614 wm_615 wm_479 wm_616 (by decide +kernel) (yRm_le (by decide) (by decide))) (Nat.lt_of_lt_of_le (show 0 < 1 by decide) (by decide)) (mc_X12 (by decide) (by decide)) rfl rfl rfl (Nat.le_of_ble_eq_true rfl) dX12_toss_83) (fun v18 u19 hk => ?_)
        clear hv
        have hv := hk
        clear hk
        refine y_istore (lv' := [(7, .int v18), (0, .ref (w.1 0)), (1, .int l1), (2, .int l2), (3, .int l3), (4, .int l4), (5, .int l5), (6, .int l6)]) E dX12_toss_86 (by decide) rfl ?_
        refine y_iload E dX12_toss_88 0 rfl ?_
        refine y_iconst (v := (-1)) E dX12_toss_90 (by decide) ?_
        refine y_icmp_eq (tgt := 111) E dX12_toss_91 (by decide) (fun c20 => ?_) (fun c20 => ?_)
        · replace hv := ite_t hv c20
          refine y_iconst (v := 0) E dX12_toss_111 (by decide) ?_
          refine y_lv (lv' := [(0, .ref (w.1 0)), (1, .int l1), (2, .int l2), (3, .int l3), (4, .int l4), (5, .int l5), (6, .int l6), (7, .int v18)]) [1, 2, 3, 4, 5, 6, 7, 0] rfl ?_
          exact hb112 u19 l1 l2 l3 l4 l5 l6 v18 0 hv
        · replace hv := ite_f hv c20
          refine y_iload E dX12_toss_94 6 rfl ?_
          refine y_iconst (v := (-1)) E dX12_toss_96 (by decide) ?_
          refine y_icmp_eq (tgt := 107) E dX12_toss_97 (by decide) (fun c21 => ?_) (fun c21 => ?_)
          · replace hv := ite_t hv c21
            refine y_iconst (v := 1) E dX12_toss_107 (by decide) ?_
            refine y_goto (tgt := 112) E dX12_toss_108 (by decide) ?_
            refine y_lv (lv' := [(0, .ref (w.1 0)), (1, .int l1), (2, .int l2), (3, .int l3), (4, .int l4), (5, .int l5), (6, .int l6), (7, .int v18)]) [1, 2, 3, 4, 5, 6, 7, 0] rfl ?_
            exact hb112 u19 l1 l2 l3 l4 l5 l6 v18 1 hv
          · replace hv := ite_f hv c21
            refine y_iload E dX12_toss_100 0 rfl ?_
            refine y_iload E dX12_toss_102 6 rfl ?_
            refine y_icmp_ge (tgt := 111) E dX12_toss_104 (by decide) (fun c22 => ?_) (fun c22 => ?_)
            · replace hv := ite_t hv c22
              refine y_iconst (v := 0) E dX12_toss_111 (by decide) ?_
              refine y_lv (lv' := [(0, .ref (w.1 0)), (1, .int l1), (2, .int l2), (3, .int l3), (4, .int l4), (5, .int l5), (6, .int l6), (7, .int v18)]) [1, 2, 3, 4, 5, 6, 7, 0] rfl ?_
              exact hb112 u19 l1 l2 l3 l4 l5 l6 v18 0 hv
            · replace hv := ite_f hv c22
              refine y_iconst (v := 1) E dX12_toss_107 (by decide) ?_
              refine y_goto (tgt := 112) E dX12_toss_108 (by decide) ?_
              refine y_lv (lv' := [(0, .ref (w.1 0)), (1, .int l1), (2, .int l2), (3, .int l3), (4, .int l4), (5, .int l5), (6, .int l6), (7, .int v18)]) [1, 2, 3, 4, 5, 6, 7, 0] rfl ?_
              exact hb112 u19 l1 l2 l3 l4 l5 l6 v18 1 hv
  refine y_aload_n E dX12_toss_0 0 rfl ?_
  refine y_iload_n E dX12_toss_1 1 rfl ?_
  refine y_calli E (y_runV E (rest := []) (kX12_isThing l w E.2.2.1 σ a1 _ hv) (y_cwV 1 E.1.2.2.2.2 wm_577 wm_578 wm_579 wm_479 wm_580 (by decide +kernel) (yRm_le (by decide) (by decide))) (Nat.lt_of_lt_of_le (show 0 < 1 by decide) (by decide)) (mc_X12 (by decide) (by decide)) rfl rfl rfl (Nat.le_of_ble_eq_true rfl) dX12_toss_2) (fun v1 u2 hk => ?_)
  clear hv
  have hv := hk
  clear hk
  refine y_if_ne (tgt := 11) E dX12_toss_5 (by decide) (fun c3 => ?_) (fun c3 => ?_)
  · replace hv := ite_f hv c3
    refine y_iload_n E dX12_toss_11 2 rfl ?_
    refine y_if_lt (tgt := 45) E dX12_toss_12 (by decide) (fun c4 => ?_) (fun c4 => ?_)
    · replace hv := ite_t hv c4
      refine y_bipush (v := (-7)) E dX12_toss_45 (by decide) ?_
      exact y_iret E dX12_toss_47 hv
    · replace hv := ite_f hv c4
      refine y_aload_n E dX12_toss_15 0 rfl ?_
      refine y_iload_n E dX12_toss_16 2 rfl ?_
      refine y_bipush (v := 100) E dX12_toss_17 (by decide) ?_
      refine y_idiv E dX12_toss_19 (by decide) ?_
      refine y_calli E (y_runV E (rest := []) (kX12_isFree l w E.2.2.1 u2 (a2 / 100) _ hv) (y_cwV 1 E.1.2.2.2.2 wm_570 wm_574 wm_575 wm_479 wm_576 (by decide +kernel) (yRm_le (by decide) (by decide))) (Nat.lt_of_lt_of_le (show 0 < 1 by decide) (by decide)) (mc_X12 (by decide) (by decide)) rfl rfl rfl (Nat.le_of_ble_eq_true rfl) dX12_toss_20) (fun v5 u6 hk => ?_)
      clear hv
      have hv := hk
      clear hk
      refine y_if_eq (tgt := 45) E dX12_toss_23 (by decide) (fun c7 => ?_) (fun c7 => ?_)
      · replace hv := ite_t hv c7
        refine y_bipush (v := (-7)) E dX12_toss_45 (by decide) ?_
        exact y_iret E dX12_toss_47 hv
      · replace hv := ite_f hv c7
        refine y_iload_n E dX12_toss_26 2 rfl ?_
        refine y_bipush (v := 100) E dX12_toss_27 (by decide) ?_
        refine y_irem E dX12_toss_29 (by decide) ?_
        refine y_calli E (y_runS E (rest := []) (kX12_isCell l w E.2.2.1 u6 (jrem a2 100) _ hv) (y_cwS 1 E.1.2.2.2.2 wm_482 wm_487 wm_479 wm_488 (by decide +kernel) (yRm_le (by decide) (by decide))) rfl rfl (Nat.le_of_ble_eq_true rfl) dX12_toss_30) (fun v8 u9 hk => ?_)
        clear hv
        have hv := hk
        clear hk
        refine y_if_eq (tgt := 45) E dX12_toss_33 (by decide) (fun c10 => ?_) (fun c10 => ?_)
        · replace hv := ite_t hv c10
          refine y_bipush (v := (-7)) E dX12_toss_45 (by decide) ?_
          exact y_iret E dX12_toss_47 hv
        · replace hv := ite_f hv c10
          refine y_iload_n E dX12_toss_36 3 rfl ?_
          refine y_iconst (v := 0) E dX12_toss_37 (by decide) ?_
          refine y_iconst (v := 1) E dX12_toss_38 (by decide) ?_
          refine y_calli E (y_runS E (rest := []) (kX12_in l w E.2.2.1 u9 a3 0 1 _ hv) (y_cwS 3 E.1.2.2.2.2 wm_477 wm_478 wm_479 wm_480 (by decide +kernel) (yRm_le (by decide) (by decide))) rfl rfl (Nat.le_of_ble_eq_true rfl) dX12_toss_39) (fun v11 u12 hk => ?_)
          clear hv
          have hv := hk
          clear hk
          refine y_if_ne (tgt := 48) E dX12_toss_42 (by decide) (fun c13 => ?_) (fun c13 => ?_)
          · replace hv := ite_f hv c13
            refine y_iconst (v := (-1)) E dX12_toss_48 (by decide) ?_
            refine y_istore (lv' := [(4, .int (-1)), (0, .ref (w.1 0)), (1, .int a1), (2, .int a2), (3, .int a3)]) E dX12_toss_49 (by decide) rfl ?_
            refine y_iconst (v := (-1)) E dX12_toss_51 (by decide) ?_
            refine y_istore (lv' := [(5, .int (-1)), (4, .int (-1)), (0, .ref (w.1 0)), (1, .int a1), (2, .int a2), (3, .int a3)]) E dX12_toss_52 (by decide) rfl ?_
            refine y_iconst (v := 0) E dX12_toss_54 (by decide) ?_
            refine y_istore (lv' := [(6, .int 0), (5, .int (-1)), (4, .int (-1)), (0, .ref (w.1 0)), (1, .int a1), (2, .int a2), (3, .int a3)]) E dX12_toss_55 (by decide) rfl ?_
            refine y_lv (lv' := [(0, .ref (w.1 0)), (1, .int a1), (2, .int a2), (3, .int a3), (4, .int (-1)), (5, .int (-1)), (6, .int 0)]) [3, 4, 5, 6, 2, 1, 0] rfl ?_
            obtain ⟨n0, hv⟩ := hv
            exact hL57 n0 u12 a1 a2 a3 (-1) (-1) 0 hv
          · replace hv := ite_t hv c13
            refine y_bipush (v := (-7)) E dX12_toss_45 (by decide) ?_
            exact y_iret E dX12_toss_47 hv
  · replace hv := ite_t hv c3
    refine y_bipush (v := (-5)) E dX12_toss_8 (by decide) ?_
    exact y_iret E dX12_toss_10 hv
