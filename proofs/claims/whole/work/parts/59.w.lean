theorem dX12_back_0 : decode cX12_back 0 = .ok (.aload_n 0, 1) := by decide +kernel
theorem dX12_back_1 : decode cX12_back 1 = .ok (.getfield 264, 3) := by decide +kernel
theorem dX12_back_4 : decode cX12_back 4 = .ok (.ifCond .ne 6, 3) := by decide +kernel
theorem dX12_back_7 : decode cX12_back 7 = .ok (.bipush (-3), 2) := by decide +kernel
theorem dX12_back_9 : decode cX12_back 9 = .ok (.ireturn, 1) := by decide +kernel
theorem dX12_back_10 : decode cX12_back 10 = .ok (.aload_n 0, 1) := by decide +kernel
theorem dX12_back_11 : decode cX12_back 11 = .ok (.aload_n 0, 1) := by decide +kernel
theorem dX12_back_12 : decode cX12_back 12 = .ok (.getfield 268, 3) := by decide +kernel
theorem dX12_back_15 : decode cX12_back 15 = .ok (.putfield 87, 3) := by decide +kernel
theorem dX12_back_18 : decode cX12_back 18 = .ok (.aload_n 0, 1) := by decide +kernel
theorem dX12_back_19 : decode cX12_back 19 = .ok (.aload_n 0, 1) := by decide +kernel
theorem dX12_back_20 : decode cX12_back 20 = .ok (.getfield 271, 3) := by decide +kernel
theorem dX12_back_23 : decode cX12_back 23 = .ok (.putfield 99, 3) := by decide +kernel
theorem dX12_back_26 : decode cX12_back 26 = .ok (.iconst 0, 1) := by decide +kernel
theorem dX12_back_27 : decode cX12_back 27 = .ok (.istore_n 1, 1) := by decide +kernel
theorem dX12_back_28 : decode cX12_back 28 = .ok (.iload_n 1, 1) := by decide +kernel
theorem dX12_back_29 : decode cX12_back 29 = .ok (.iconst 3, 1) := by decide +kernel
theorem dX12_back_30 : decode cX12_back 30 = .ok (.if_icmp .ge 21, 3) := by decide +kernel
theorem dX12_back_33 : decode cX12_back 33 = .ok (.aload_n 0, 1) := by decide +kernel
theorem dX12_back_34 : decode cX12_back 34 = .ok (.getfield 7, 3) := by decide +kernel
theorem dX12_back_37 : decode cX12_back 37 = .ok (.iload_n 1, 1) := by decide +kernel
theorem dX12_back_38 : decode cX12_back 38 = .ok (.aload_n 0, 1) := by decide +kernel
theorem dX12_back_39 : decode cX12_back 39 = .ok (.getfield 34, 3) := by decide +kernel
theorem dX12_back_42 : decode cX12_back 42 = .ok (.iload_n 1, 1) := by decide +kernel
theorem dX12_back_43 : decode cX12_back 43 = .ok (.iaload, 1) := by decide +kernel
theorem dX12_back_44 : decode cX12_back 44 = .ok (.iastore, 1) := by decide +kernel
theorem dX12_back_45 : decode cX12_back 45 = .ok (.iinc 1 1, 3) := by decide +kernel
theorem dX12_back_48 : decode cX12_back 48 = .ok (.goto (-20), 3) := by decide +kernel
theorem dX12_back_51 : decode cX12_back 51 = .ok (.aload_n 0, 1) := by decide +kernel
theorem dX12_back_52 : decode cX12_back 52 = .ok (.aload_n 0, 1) := by decide +kernel
theorem dX12_back_53 : decode cX12_back 53 = .ok (.getfield 34, 3) := by decide +kernel
theorem dX12_back_56 : decode cX12_back 56 = .ok (.iconst 3, 1) := by decide +kernel
theorem dX12_back_57 : decode cX12_back 57 = .ok (.iaload, 1) := by decide +kernel
theorem dX12_back_58 : decode cX12_back 58 = .ok (.putfield 93, 3) := by decide +kernel
theorem dX12_back_61 : decode cX12_back 61 = .ok (.iconst 0, 1) := by decide +kernel
theorem dX12_back_62 : decode cX12_back 62 = .ok (.istore_n 1, 1) := by decide +kernel
theorem dX12_back_63 : decode cX12_back 63 = .ok (.iload_n 1, 1) := by decide +kernel
theorem dX12_back_64 : decode cX12_back 64 = .ok (.iconst 5, 1) := by decide +kernel
theorem dX12_back_65 : decode cX12_back 65 = .ok (.if_icmp .ge 38, 3) := by decide +kernel
theorem dX12_back_68 : decode cX12_back 68 = .ok (.aload_n 0, 1) := by decide +kernel
theorem dX12_back_69 : decode cX12_back 69 = .ok (.getfield 19, 3) := by decide +kernel
theorem dX12_back_72 : decode cX12_back 72 = .ok (.iload_n 1, 1) := by decide +kernel
theorem dX12_back_73 : decode cX12_back 73 = .ok (.aload_n 0, 1) := by decide +kernel
theorem dX12_back_74 : decode cX12_back 74 = .ok (.getfield 34, 3) := by decide +kernel
theorem dX12_back_77 : decode cX12_back 77 = .ok (.iconst 4, 1) := by decide +kernel
theorem dX12_back_78 : decode cX12_back 78 = .ok (.iload_n 1, 1) := by decide +kernel
theorem dX12_back_79 : decode cX12_back 79 = .ok (.iadd, 1) := by decide +kernel
theorem dX12_back_80 : decode cX12_back 80 = .ok (.iaload, 1) := by decide +kernel
theorem dX12_back_81 : decode cX12_back 81 = .ok (.iastore, 1) := by decide +kernel
theorem dX12_back_82 : decode cX12_back 82 = .ok (.aload_n 0, 1) := by decide +kernel
theorem dX12_back_83 : decode cX12_back 83 = .ok (.getfield 22, 3) := by decide +kernel
theorem dX12_back_86 : decode cX12_back 86 = .ok (.iload_n 1, 1) := by decide +kernel
theorem dX12_back_87 : decode cX12_back 87 = .ok (.aload_n 0, 1) := by decide +kernel
theorem dX12_back_88 : decode cX12_back 88 = .ok (.getfield 34, 3) := by decide +kernel
theorem dX12_back_91 : decode cX12_back 91 = .ok (.bipush 9, 2) := by decide +kernel
theorem dX12_back_93 : decode cX12_back 93 = .ok (.iload_n 1, 1) := by decide +kernel
theorem dX12_back_94 : decode cX12_back 94 = .ok (.iadd, 1) := by decide +kernel
theorem dX12_back_95 : decode cX12_back 95 = .ok (.iaload, 1) := by decide +kernel
theorem dX12_back_96 : decode cX12_back 96 = .ok (.iastore, 1) := by decide +kernel
theorem dX12_back_97 : decode cX12_back 97 = .ok (.iinc 1 1, 3) := by decide +kernel
theorem dX12_back_100 : decode cX12_back 100 = .ok (.goto (-37), 3) := by decide +kernel
theorem dX12_back_103 : decode cX12_back 103 = .ok (.aload_n 0, 1) := by decide +kernel
theorem dX12_back_104 : decode cX12_back 104 = .ok (.getfield 87, 3) := by decide +kernel
theorem dX12_back_107 : decode cX12_back 107 = .ok (.ireturn, 1) := by decide +kernel
set_option maxRecDepth 100000 in
set_option maxHeartbeats 4000000 in
theorem kX12_back (l : Launch) (w : wT) (hw : yOk w 20) (σ : Hp)  (K : Int32 → Hp → Prop) (hv : VX12_back K σ ) : yMet l w mcf 20 yX12_back cX12_back 2 (some .int) 1 [.ref (w.1 0)] σ (yQi w mcf 20 K) := by
  unfold VX12_back at hv
  refine y_start (lv0 := [(0, .ref (w.1 0))]) (by decide +kernel) (own := RX12) rfl hw (Nat.le_of_ble_eq_true rfl) rfl (fun p e s m below meth c A E => ?_)
  have hL63 : ∀ (n63 : Nat) (σ : Hp) (l1 : Int32), VX12_back_L63 K n63 σ l1 → YY p l e (yRm 1) s m [.ref (w.1 0)].toArray below meth c w mcf 20 A (MQ below (yQi w mcf 20 K A) [.ref (w.1 0)].toArray s 0 0 A) 2 σ 63 [(0, .ref (w.1 0)), (1, .int l1)] [] := by
    intro n63
    induction n63 with
    | zero => exact fun _ _ hv => (by unfold VX12_back_L63 at hv; exact hv.elim)
    | succ n63 ih63 =>
      intro σ l1 hv
      unfold VX12_back_L63 at hv
      refine y_iload_n E dX12_back_63 1 rfl ?_
      refine y_iconst (v := 5) E dX12_back_64 (by decide) ?_
      refine y_icmp_ge (tgt := 103) E dX12_back_65 (by decide) (fun c8 => ?_) (fun c8 => ?_)
      · replace hv := ite_t hv c8
        refine y_aload_n E dX12_back_103 0 rfl ?_
        refine gf_X12_2 E (by decide) (by decide) wm_489 dX12_back_104 ?_
        exact y_iret E dX12_back_107 hv
      · replace hv := ite_f hv c8
        refine y_aload_n E dX12_back_68 0 rfl ?_
        refine gf_X12_5 E (by decide) (by decide) wm_490 dX12_back_69 ?_
        refine y_iload_n E dX12_back_72 1 rfl ?_
        refine y_aload_n E dX12_back_73 0 rfl ?_
        refine gf_X12_16 E (by decide) (by decide) wm_680 dX12_back_74 ?_
        refine y_iconst (v := 4) E dX12_back_77 (by decide) ?_
        refine y_iload_n E dX12_back_78 1 rfl ?_
        refine y_iadd E dX12_back_79 ?_
        obtain ⟨hi, hv⟩ := hv
        refine y_iald E (Nat.lt_of_lt_of_le (show 9 < 10 by decide) (by decide)) (mc_m_imageRows (by decide) (by decide)) hi dX12_back_80 ?_
        obtain ⟨hi, hv⟩ := hv
        refine y_iast E (Nat.lt_of_lt_of_le (show 4 < 5 by decide) (by decide)) (fun _ => mc_m_cellOf (by decide) (by decide)) hi dX12_back_81 ?_
        refine y_nmH (fun u9 hu9 => ?_)
        replace hv := hv u9 hu9
        refine y_aload_n E dX12_back_82 0 rfl ?_
        refine gf_X12_6 E (by decide) (by decide) wm_573 dX12_back_83 ?_
        refine y_iload_n E dX12_back_86 1 rfl ?_
        refine y_aload_n E dX12_back_87 0 rfl ?_
        refine gf_X12_16 E (by decide) (by decide) wm_680 dX12_back_88 ?_
        refine y_bipush (v := 9) E dX12_back_91 (by decide) ?_
        refine y_iload_n E dX12_back_93 1 rfl ?_
        refine y_iadd E dX12_back_94 ?_
        obtain ⟨hi, hv⟩ := hv
        refine y_iald E (Nat.lt_of_lt_of_le (show 9 < 10 by decide) (by decide)) (mc_m_imageRows (by decide) (by decide)) hi dX12_back_95 ?_
        obtain ⟨hi, hv⟩ := hv
        refine y_iast E (Nat.lt_of_lt_of_le (show 5 < 6 by decide) (by decide)) (fun _ => mc_m_wayOf (by decide) (by decide)) hi dX12_back_96 ?_
        refine y_nmH (fun u10 hu10 => ?_)
        replace hv := hv u10 hu10
        obtain ⟨x11, hx11⟩ : ∃ z : Int32, z = l1 + 1 := ⟨_, rfl⟩
        replace hv := hv x11 hx11
        refine y_iinc (v := x11) (lv' := [(1, .int x11), (0, .ref (w.1 0))]) E dX12_back_97 1 rfl (by rw [hx11]; rfl) (by decide) rfl ?_
        refine y_goto (tgt := 63) E dX12_back_100 (by decide) ?_
        refine y_lv (lv' := [(0, .ref (w.1 0)), (1, .int x11)]) [1, 0] rfl ?_
        exact ih63 u10 x11 hv
  have hL28 : ∀ (n28 : Nat) (σ : Hp) (l1 : Int32), VX12_back_L28 K n28 σ l1 → YY p l e (yRm 1) s m [.ref (w.1 0)].toArray below meth c w mcf 20 A (MQ below (yQi w mcf 20 K A) [.ref (w.1 0)].toArray s 0 0 A) 2 σ 28 [(0, .ref (w.1 0)), (1, .int l1)] [] := by
    intro n28
    induction n28 with
    | zero => exact fun _ _ hv => (by unfold VX12_back_L28 at hv; exact hv.elim)
    | succ n28 ih28 =>
      intro σ l1 hv
      unfold VX12_back_L28 at hv
      refine y_iload_n E dX12_back_28 1 rfl ?_
      refine y_iconst (v := 3) E dX12_back_29 (by decide) ?_
      refine y_icmp_ge (tgt := 51) E dX12_back_30 (by decide) (fun c4 => ?_) (fun c4 => ?_)
      · replace hv := ite_t hv c4
        refine y_aload_n E dX12_back_51 0 rfl ?_
        refine y_aload_n E dX12_back_52 0 rfl ?_
        refine gf_X12_16 E (by decide) (by decide) wm_680 dX12_back_53 ?_
        refine y_iconst (v := 3) E dX12_back_56 (by decide) ?_
        refine y_ialdc (j := 3) E (Nat.lt_of_lt_of_le (show 9 < 10 by decide) (by decide)) (mc_m_imageRows (by decide) (by decide)) (by decide) (by decide) dX12_back_57 ?_
        refine pf_X12_1 E (by decide) (by decide) wm_495 dX12_back_58 ?_
        refine y_nmH (fun u5 hu5 => ?_)
        replace hv := hv u5 hu5
        refine y_iconst (v := 0) E dX12_back_61 (by decide) ?_
        refine y_istore_n (lv' := [(1, .int 0), (0, .ref (w.1 0))]) E dX12_back_62 (by decide) rfl ?_
        refine y_lv (lv' := [(0, .ref (w.1 0)), (1, .int 0)]) [1, 0] rfl ?_
        obtain ⟨n0, hv⟩ := hv
        exact hL63 n0 u5 0 hv
      · replace hv := ite_f hv c4
        refine y_aload_n E dX12_back_33 0 rfl ?_
        refine gf_X12_0 E (by decide) (by decide) wm_481 dX12_back_34 ?_
        refine y_iload_n E dX12_back_37 1 rfl ?_
        refine y_aload_n E dX12_back_38 0 rfl ?_
        refine gf_X12_16 E (by decide) (by decide) wm_680 dX12_back_39 ?_
        refine y_iload_n E dX12_back_42 1 rfl ?_
        obtain ⟨hi, hv⟩ := hv
        refine y_iald E (Nat.lt_of_lt_of_le (show 9 < 10 by decide) (by decide)) (mc_m_imageRows (by decide) (by decide)) hi dX12_back_43 ?_
        obtain ⟨hi, hv⟩ := hv
        refine y_iast E (Nat.lt_of_lt_of_le (show 1 < 2 by decide) (by decide)) (fun _ => mc_m_sets (by decide) (by decide)) hi dX12_back_44 ?_
        refine y_nmH (fun u6 hu6 => ?_)
        replace hv := hv u6 hu6
        obtain ⟨x7, hx7⟩ : ∃ z : Int32, z = l1 + 1 := ⟨_, rfl⟩
        replace hv := hv x7 hx7
        refine y_iinc (v := x7) (lv' := [(1, .int x7), (0, .ref (w.1 0))]) E dX12_back_45 1 rfl (by rw [hx7]; rfl) (by decide) rfl ?_
        refine y_goto (tgt := 28) E dX12_back_48 (by decide) ?_
        refine y_lv (lv' := [(0, .ref (w.1 0)), (1, .int x7)]) [1, 0] rfl ?_
        exact ih28 u6 x7 hv
  refine y_aload_n E dX12_back_0 0 rfl ?_
  refine gf_X12_13 E (by decide) (by decide) wm_677 dX12_back_1 ?_
  refine y_if_ne (tgt := 10) E dX12_back_4 (by decide) (fun c1 => ?_) (fun c1 => ?_)
  · replace hv := ite_f hv c1
    refine y_aload_n E dX12_back_10 0 rfl ?_
    refine y_aload_n E dX12_back_11 0 rfl ?_
    refine gf_X12_14 E (by decide) (by decide) wm_678 dX12_back_12 ?_
    refine pf_X12_2 E (by decide) (by decide) wm_489 dX12_back_15 ?_
    refine y_nmH (fun u2 hu2 => ?_)
    replace hv := hv u2 hu2
    refine y_aload_n E dX12_back_18 0 rfl ?_
    refine y_aload_n E dX12_back_19 0 rfl ?_
    refine gf_X12_15 E (by decide) (by decide) wm_679 dX12_back_20 ?_
    refine pf_X12_12 E (by decide) (by decide) wm_497 dX12_back_23 ?_
    refine y_nmH (fun u3 hu3 => ?_)
    replace hv := hv u3 hu3
    refine y_iconst (v := 0) E dX12_back_26 (by decide) ?_
    refine y_istore_n (lv' := [(1, .int 0), (0, .ref (w.1 0))]) E dX12_back_27 (by decide) rfl ?_
    refine y_lv (lv' := [(0, .ref (w.1 0)), (1, .int 0)]) [1, 0] rfl ?_
    obtain ⟨n0, hv⟩ := hv
    exact hL28 n0 u3 0 hv
  · replace hv := ite_t hv c1
    refine y_bipush (v := (-3)) E dX12_back_7 (by decide) ?_
    exact y_iret E dX12_back_9 hv
theorem dX12_sheet_0 : decode cX12_sheet 0 = .ok (.iload_n 1, 1) := by decide +kernel
theorem dX12_sheet_1 : decode cX12_sheet 1 = .ok (.iconst 0, 1) := by decide +kernel
theorem dX12_sheet_2 : decode cX12_sheet 2 = .ok (.iconst 3, 1) := by decide +kernel
theorem dX12_sheet_3 : decode cX12_sheet 3 = .ok (.invokestatic 75, 3) := by decide +kernel
theorem dX12_sheet_6 : decode cX12_sheet 6 = .ok (.ifCond .eq 23, 3) := by decide +kernel
theorem dX12_sheet_9 : decode cX12_sheet 9 = .ok (.iload_n 2, 1) := by decide +kernel
theorem dX12_sheet_10 : decode cX12_sheet 10 = .ok (.iconst (-1), 1) := by decide +kernel
theorem dX12_sheet_11 : decode cX12_sheet 11 = .ok (.iconst 2, 1) := by decide +kernel
theorem dX12_sheet_12 : decode cX12_sheet 12 = .ok (.invokestatic 75, 3) := by decide +kernel
theorem dX12_sheet_15 : decode cX12_sheet 15 = .ok (.ifCond .eq 14, 3) := by decide +kernel
theorem dX12_sheet_18 : decode cX12_sheet 18 = .ok (.iload_n 2, 1) := by decide +kernel
theorem dX12_sheet_19 : decode cX12_sheet 19 = .ok (.iconst (-1), 1) := by decide +kernel
theorem dX12_sheet_20 : decode cX12_sheet 20 = .ok (.if_icmp .eq 12, 3) := by decide +kernel
theorem dX12_sheet_23 : decode cX12_sheet 23 = .ok (.iload_n 3, 1) := by decide +kernel
theorem dX12_sheet_24 : decode cX12_sheet 24 = .ok (.bipush 40, 2) := by decide +kernel
theorem dX12_sheet_26 : decode cX12_sheet 26 = .ok (.if_icmp .le 6, 3) := by decide +kernel
theorem dX12_sheet_29 : decode cX12_sheet 29 = .ok (.bipush (-2), 2) := by decide +kernel
theorem dX12_sheet_31 : decode cX12_sheet 31 = .ok (.ireturn, 1) := by decide +kernel
theorem dX12_sheet_32 : decode cX12_sheet 32 = .ok (.iload_n 2, 1) := by decide +kernel
theorem dX12_sheet_33 : decode cX12_sheet 33 = .ok (.iconst (-1), 1) := by decide +kernel
theorem dX12_sheet_34 : decode cX12_sheet 34 = .ok (.if_icmp .eq 10, 3) := by decide +kernel
theorem dX12_sheet_37 : decode cX12_sheet 37 = .ok (.iload_n 3, 1) := by decide +kernel
theorem dX12_sheet_38 : decode cX12_sheet 38 = .ok (.ifCond .ge 6, 3) := by decide +kernel
theorem dX12_sheet_41 : decode cX12_sheet 41 = .ok (.bipush (-14), 2) := by decide +kernel
theorem dX12_sheet_43 : decode cX12_sheet 43 = .ok (.ireturn, 1) := by decide +kernel
theorem dX12_sheet_44 : decode cX12_sheet 44 = .ok (.aload_n 0, 1) := by decide +kernel
theorem dX12_sheet_45 : decode cX12_sheet 45 = .ok (.getfield 37, 3) := by decide +kernel
theorem dX12_sheet_48 : decode cX12_sheet 48 = .ok (.iload_n 1, 1) := by decide +kernel
theorem dX12_sheet_49 : decode cX12_sheet 49 = .ok (.iload_n 2, 1) := by decide +kernel
theorem dX12_sheet_50 : decode cX12_sheet 50 = .ok (.iastore, 1) := by decide +kernel
theorem dX12_sheet_51 : decode cX12_sheet 51 = .ok (.aload_n 0, 1) := by decide +kernel
theorem dX12_sheet_52 : decode cX12_sheet 52 = .ok (.getfield 40, 3) := by decide +kernel
theorem dX12_sheet_55 : decode cX12_sheet 55 = .ok (.iload_n 1, 1) := by decide +kernel
theorem dX12_sheet_56 : decode cX12_sheet 56 = .ok (.iload_n 2, 1) := by decide +kernel
theorem dX12_sheet_57 : decode cX12_sheet 57 = .ok (.iconst (-1), 1) := by decide +kernel
theorem dX12_sheet_58 : decode cX12_sheet 58 = .ok (.if_icmp .ne 7, 3) := by decide +kernel
theorem dX12_sheet_61 : decode cX12_sheet 61 = .ok (.iconst 0, 1) := by decide +kernel
theorem dX12_sheet_62 : decode cX12_sheet 62 = .ok (.goto 4, 3) := by decide +kernel
theorem dX12_sheet_65 : decode cX12_sheet 65 = .ok (.iload_n 3, 1) := by decide +kernel
theorem dX12_sheet_66 : decode cX12_sheet 66 = .ok (.iastore, 1) := by decide +kernel
theorem dX12_sheet_67 : decode cX12_sheet 67 = .ok (.iconst 0, 1) := by decide +kernel
theorem dX12_sheet_68 : decode cX12_sheet 68 = .ok (.istore 4, 2) := by decide +kernel
theorem dX12_sheet_70 : decode cX12_sheet 70 = .ok (.iload 4, 2) := by decide +kernel
theorem dX12_sheet_72 : decode cX12_sheet 72 = .ok (.bipush 40, 2) := by decide +kernel
theorem dX12_sheet_74 : decode cX12_sheet 74 = .ok (.if_icmp .ge 22, 3) := by decide +kernel
theorem dX12_sheet_77 : decode cX12_sheet 77 = .ok (.aload_n 0, 1) := by decide +kernel
theorem dX12_sheet_78 : decode cX12_sheet 78 = .ok (.getfield 43, 3) := by decide +kernel
theorem dX12_sheet_81 : decode cX12_sheet 81 = .ok (.bipush 40, 2) := by decide +kernel
theorem dX12_sheet_83 : decode cX12_sheet 83 = .ok (.iload_n 1, 1) := by decide +kernel
theorem dX12_sheet_84 : decode cX12_sheet 84 = .ok (.imul, 1) := by decide +kernel
theorem dX12_sheet_85 : decode cX12_sheet 85 = .ok (.iload 4, 2) := by decide +kernel
theorem dX12_sheet_87 : decode cX12_sheet 87 = .ok (.iadd, 1) := by decide +kernel
theorem dX12_sheet_88 : decode cX12_sheet 88 = .ok (.iconst 0, 1) := by decide +kernel
theorem dX12_sheet_89 : decode cX12_sheet 89 = .ok (.iastore, 1) := by decide +kernel
theorem dX12_sheet_90 : decode cX12_sheet 90 = .ok (.iinc 4 1, 3) := by decide +kernel
theorem dX12_sheet_93 : decode cX12_sheet 93 = .ok (.goto (-23), 3) := by decide +kernel
theorem dX12_sheet_96 : decode cX12_sheet 96 = .ok (.iconst 1, 1) := by decide +kernel
theorem dX12_sheet_97 : decode cX12_sheet 97 = .ok (.ireturn, 1) := by decide +kernel
set_option maxRecDepth 100000 in
set_option maxHeartbeats 4000000 in
theorem kX12_sheet (l : Launch) (w : wT) (hw : yOk w 20) (σ : Hp) (a1 : Int32) (a2 : Int32) (a3 : Int32) (K : Int32 → Hp → Prop) (hv : VX12_sheet K σ a1 a2 a3) : yMet l w mcf 20 yX12_sheet cX12_sheet 5 (some .int) 2 [.ref (w.1 0), .int a1, .int a2, .int a3] σ (yQi w mcf 20 K) := by
  unfold VX12_sheet at hv
  refine y_start (lv0 := [(0, .ref (w.1 0)), (1, .int a1), (2, .int a2), (3, .int a3)]) (by decide +kernel) (own := RX12) rfl hw (Nat.le_of_ble_eq_true rfl) rfl (fun p e s m below meth c A E => ?_)
  have hL70 : ∀ (n70 : Nat) (σ : Hp) (l1 : Int32) (l4 : Int32), VX12_sheet_L70 K n70 σ l1 l4 → YY p l e (yRm 2) s m [.ref (w.1 0), .int a1, .int a2, .int a3].toArray below meth c w mcf 20 A (MQ below (yQi w mcf 20 K A) [.ref (w.1 0), .int a1, .int a2, .int a3].toArray s 0 0 A) 5 σ 70 [(0, .ref (w.1 0)), (1, .int l1), (4, .int l4)] [] := by
    intro n70
    induction n70 with
    | zero => exact fun _ _ _ hv => (by unfold VX12_sheet_L70 at hv; exact hv.elim)
    | succ n70 ih70 =>
      intro σ l1 l4 hv
      unfold VX12_sheet_L70 at hv
      refine y_iload E dX12_sheet_70 2 rfl ?_
      refine y_bipush (v := 40) E dX12_sheet_72 (by decide) ?_
      refine y_icmp_ge (tgt := 96) E dX12_sheet_74 (by decide) (fun c15 => ?_) (fun c15 => ?_)
      · replace hv := ite_t hv c15
        refine y_iconst (v := 1) E dX12_sheet_96 (by decide) ?_
        exact y_iret E dX12_sheet_97 hv
      · replace hv := ite_f hv c15
        refine y_aload_n E dX12_sheet_77 0 rfl ?_
        refine gf_X12_19 E (by decide) (by decide) wm_658 dX12_sheet_78 ?_
        refine y_bipush (v := 40) E dX12_sheet_81 (by decide) ?_
        refine y_iload_n E dX12_sheet_83 1 rfl ?_
        refine y_imul E dX12_sheet_84 ?_
        refine y_iload E dX12_sheet_85 2 rfl ?_
        refine y_iadd E dX12_sheet_87 ?_
        refine y_iconst (v := 0) E dX12_sheet_88 (by decide) ?_
        obtain ⟨hi, hv⟩ := hv
        refine y_iast E (Nat.lt_of_lt_of_le (show 12 < 13 by decide) (by decide)) (fun _ => mc_m_cells (by decide) (by decide)) hi dX12_sheet_89 ?_
        refine y_nmH (fun u16 hu16 => ?_)
        replace hv := hv u16 hu16
        obtain ⟨x17, hx17⟩ : ∃ z : Int32, z = l4 + 1 := ⟨_, rfl⟩
        replace hv := hv x17 hx17
        refine y_iinc (v := x17) (lv' := [(4, .int x17), (0, .ref (w.1 0)), (1, .int l1)]) E dX12_sheet_90 2 rfl (by rw [hx17]; rfl) (by decide) rfl ?_
        refine y_goto (tgt := 70) E dX12_sheet_93 (by decide) ?_
        refine y_lv (lv' := [(0, .ref (w.1 0)), (1, .int l1), (4, .int x17)]) [1, 2, 0] rfl ?_
        exact ih70 u16 l1 x17 hv
  have hb44 : ∀ (σ : Hp) (l1 : Int32) (l2 : Int32) (l3 : Int32), VX12_sheet_b44 K σ l1 l2 l3 → YY p l e (yRm 2) s m [.ref (w.1 0), .int a1, .int a2, .int a3].toArray below meth c w mcf 20 A (MQ below (yQi w mcf 20 K A) [.ref (w.1 0), .int a1, .int a2, .int a3].toArray s 0 0 A) 5 σ 44 [(0, .ref (w.1 0)), (1, .int l1), (2, .int l2), (3, .int l3)] [] := by
    intro σ l1 l2 l3 hv
    unfold VX12_sheet_b44 at hv
    refine y_aload_n E dX12_sheet_44 0 rfl ?_
    refine gf_X12_17 E (by decide) (by decide) wm_652 dX12_sheet_45 ?_
    refine y_iload_n E dX12_sheet_48 1 rfl ?_
    refine y_iload_n E dX12_sheet_49 2 rfl ?_
    obtain ⟨hi, hv⟩ := hv
    refine y_iast E (Nat.lt_of_lt_of_le (show 10 < 11 by decide) (by decide)) (fun _ => mc_m_sheetSort (by decide) (by decide)) hi dX12_sheet_50 ?_
    refine y_nmH (fun u11 hu11 => ?_)
    replace hv := hv u11 hu11
    refine y_aload_n E dX12_sheet_51 0 rfl ?_
    refine gf_X12_18 E (by decide) (by decide) wm_653 dX12_sheet_52 ?_
    refine y_iload_n E dX12_sheet_55 1 rfl ?_
    refine y_iload_n E dX12_sheet_56 2 rfl ?_
    refine y_iconst (v := (-1)) E dX12_sheet_57 (by decide) ?_
    refine y_icmp_ne (tgt := 65) E dX12_sheet_58 (by decide) (fun c12 => ?_) (fun c12 => ?_)
    · replace hv := ite_f hv c12
      refine y_iload_n E dX12_sheet_65 3 rfl ?_
      obtain ⟨hi, hv⟩ := hv
      refine y_iast E (Nat.lt_of_lt_of_le (show 11 < 12 by decide) (by decide)) (fun _ => mc_m_sheetSize (by decide) (by decide)) hi dX12_sheet_66 ?_
      refine y_nmH (fun u13 hu13 => ?_)
      replace hv := hv u13 hu13
      refine y_iconst (v := 0) E dX12_sheet_67 (by decide) ?_
      refine y_istore (lv' := [(4, .int 0), (0, .ref (w.1 0)), (1, .int l1), (2, .int l2), (3, .int l3)]) E dX12_sheet_68 (by decide) rfl ?_
      refine y_lv (lv' := [(0, .ref (w.1 0)), (1, .int l1), (4, .int 0)]) [1, 2, 0] rfl ?_
      obtain ⟨n0, hv⟩ := hv
      exact hL70 n0 u13 l1 0 hv
    · replace hv := ite_t hv c12
      refine y_iconst (v := 0) E dX12_sheet_61 (by decide) ?_
      refine y_goto (tgt := 66) E dX12_sheet_62 (by decide) ?_
      obtain ⟨hi, hv⟩ := hv
      refine y_iast E (Nat.lt_of_lt_of_le (show 11 < 12 by decide) (by decide)) (fun _ => mc_m_sheetSize (by decide) (by decide)) hi dX12_sheet_66 ?_
      refine y_nmH (fun u14 hu14 => ?_)
      replace hv := hv u14 hu14
      refine y_iconst (v := 0) E dX12_sheet_67 (by decide) ?_
      refine y_istore (lv' := [(4, .int 0), (0, .ref (w.1 0)), (1, .int l1), (2, .int l2), (3, .int l3)]) E dX12_sheet_68 (by decide) rfl ?_
      refine y_lv (lv' := [(0, .ref (w.1 0)), (1, .int l1), (4, .int 0)]) [1, 2, 0] rfl ?_
      obtain ⟨n0, hv⟩ := hv
      exact hL70 n0 u14 l1 0 hv
  have hb32 : ∀ (σ : Hp) (l1 : Int32) (l2 : Int32) (l3 : Int32), VX12_sheet_b32 K σ l1 l2 l3 → YY p l e (yRm 2) s m [.ref (w.1 0), .int a1, .int a2, .int a3].toArray below meth c w mcf 20 A (MQ below (yQi w mcf 20 K A) [.ref (w.1 0), .int a1, .int a2, .int a3].toArray s 0 0 A) 5 σ 32 [(0, .ref (w.1 0)), (1, .int l1), (2, .int l2), (3, .int l3)] [] := by
    intro σ l1 l2 l3 hv
    unfold VX12_sheet_b32 at hv
    refine y_iload_n E dX12_sheet_32 2 rfl ?_
    refine y_iconst (v := (-1)) E dX12_sheet_33 (by decide) ?_
    refine y_icmp_eq (tgt := 44) E dX12_sheet_34 (by decide) (fun c9 => ?_) (fun c9 => ?_)
    · replace hv := ite_t hv c9
      exact hb44 σ l1 l2 l3 hv
    · replace hv := ite_f hv c9
      refine y_iload_n E dX12_sheet_37 3 rfl ?_
      refine y_if_ge (tgt := 44) E dX12_sheet_38 (by decide) (fun c10 => ?_) (fun c10 => ?_)
      · replace hv := ite_t hv c10
        exact hb44 σ l1 l2 l3 hv
      · replace hv := ite_f hv c10
        refine y_bipush (v := (-14)) E dX12_sheet_41 (by decide) ?_
        exact y_iret E dX12_sheet_43 hv
  refine y_iload_n E dX12_sheet_0 1 rfl ?_
  refine y_iconst (v := 0) E dX12_sheet_1 (by decide) ?_
  refine y_iconst (v := 3) E dX12_sheet_2 (by decide) ?_
  refine y_calli E (y_runS E (rest := []) (kX12_in l w E.2.2.1 σ a1 0 3 _ hv) (y_cwS 3 E.1.2.2.2.2 wm_477 wm_478 wm_479 wm_480 (by decide +kernel) (yRm_le (by decide) (by decide))) rfl rfl (Nat.le_of_ble_eq_true rfl) dX12_sheet_3) (fun v1 u2 hk => ?_)
  clear hv
  have hv := hk
  clear hk
  refine y_if_eq (tgt := 29) E dX12_sheet_6 (by decide) (fun c3 => ?_) (fun c3 => ?_)
  · replace hv := ite_t hv c3
    refine y_bipush (v := (-2)) E dX12_sheet_29 (by decide) ?_
    exact y_iret E dX12_sheet_31 hv
  · replace hv := ite_f hv c3
    refine y_iload_n E dX12_sheet_9 2 rfl ?_
    refine y_iconst (v := (-1)) E dX12_sheet_10 (by decide) ?_
    refine y_iconst (v := 2) E dX12_sheet_11 (by decide) ?_
    refine y_calli E (y_runS E (rest := []) (kX12_in l w E.2.2.1 u2 a2 (-1) 2 _ hv) (y_cwS 3 E.1.2.2.2.2 wm_477 wm_478 wm_479 wm_480 (by decide +kernel) (yRm_le (by decide) (by decide))) rfl rfl (Nat.le_of_ble_eq_true rfl) dX12_sheet_12) (fun v4 u5 hk => ?_)
    clear hv
    have hv := hk
    clear hk
    refine y_if_eq (tgt := 29) E dX12_sheet_15 (by decide) (fun c6 => ?_) (fun c6 => ?_)
    · replace hv := ite_t hv c6
      refine y_bipush (v := (-2)) E dX12_sheet_29 (by decide) ?_
      exact y_iret E dX12_sheet_31 hv
    · replace hv := ite_f hv c6
      refine y_iload_n E dX12_sheet_18 2 rfl ?_
      refine y_iconst (v := (-1)) E dX12_sheet_19 (by decide) ?_
      refine y_icmp_eq (tgt := 32) E dX12_sheet_20 (by decide) (fun c7 => ?_) (fun c7 => ?_)
      · replace hv := ite_t hv c7
        exact hb32 u5 a1 a2 a3 hv
      · replace hv := ite_f hv c7
        refine y_iload_n E dX12_sheet_23 3 rfl ?_
        refine y_bipush (v := 40) E dX12_sheet_24 (by decide) ?_
        refine y_icmp_le (tgt := 32) E dX12_sheet_26 (by decide) (fun c8 => ?_) (fun c8 => ?_)
        · replace hv := ite_t hv c8
          exact hb32 u5 a1 a2 a3 hv
        · replace hv := ite_f hv c8
          refine y_bipush (v := (-2)) E dX12_sheet_29 (by decide) ?_
          exact y_iret E dX12_sheet_31 hv
theorem dX12_cell_0 : decode cX12_cell 0 = .ok (.iload_n 1, 1) := by decide +kernel
theorem dX12_cell_1 : decode cX12_cell 1 = .ok (.iconst 0, 1) := by decide +kernel
theorem dX12_cell_2 : decode cX12_cell 2 = .ok (.iconst 3, 1) := by decide +kernel
theorem dX12_cell_3 : decode cX12_cell 3 = .ok (.invokestatic 75, 3) := by decide +kernel
theorem dX12_cell_6 : decode cX12_cell 6 = .ok (.ifCond .ne 6, 3) := by decide +kernel
theorem dX12_cell_9 : decode cX12_cell 9 = .ok (.bipush (-2), 2) := by decide +kernel
theorem dX12_cell_11 : decode cX12_cell 11 = .ok (.ireturn, 1) := by decide +kernel
theorem dX12_cell_12 : decode cX12_cell 12 = .ok (.aload_n 0, 1) := by decide +kernel
theorem dX12_cell_13 : decode cX12_cell 13 = .ok (.getfield 37, 3) := by decide +kernel
theorem dX12_cell_16 : decode cX12_cell 16 = .ok (.iload_n 1, 1) := by decide +kernel
theorem dX12_cell_17 : decode cX12_cell 17 = .ok (.iaload, 1) := by decide +kernel
theorem dX12_cell_18 : decode cX12_cell 18 = .ok (.iconst (-1), 1) := by decide +kernel
theorem dX12_cell_19 : decode cX12_cell 19 = .ok (.if_icmp .ne 6, 3) := by decide +kernel
theorem dX12_cell_22 : decode cX12_cell 22 = .ok (.bipush (-11), 2) := by decide +kernel
theorem dX12_cell_24 : decode cX12_cell 24 = .ok (.ireturn, 1) := by decide +kernel
theorem dX12_cell_25 : decode cX12_cell 25 = .ok (.iload_n 2, 1) := by decide +kernel
theorem dX12_cell_26 : decode cX12_cell 26 = .ok (.iconst 0, 1) := by decide +kernel
theorem dX12_cell_27 : decode cX12_cell 27 = .ok (.aload_n 0, 1) := by decide +kernel
theorem dX12_cell_28 : decode cX12_cell 28 = .ok (.getfield 40, 3) := by decide +kernel
theorem dX12_cell_31 : decode cX12_cell 31 = .ok (.iload_n 1, 1) := by decide +kernel
theorem dX12_cell_32 : decode cX12_cell 32 = .ok (.iaload, 1) := by decide +kernel
theorem dX12_cell_33 : decode cX12_cell 33 = .ok (.iconst 1, 1) := by decide +kernel
theorem dX12_cell_34 : decode cX12_cell 34 = .ok (.isub, 1) := by decide +kernel
theorem dX12_cell_35 : decode cX12_cell 35 = .ok (.invokestatic 75, 3) := by decide +kernel
theorem dX12_cell_38 : decode cX12_cell 38 = .ok (.ifCond .ne 6, 3) := by decide +kernel
theorem dX12_cell_41 : decode cX12_cell 41 = .ok (.bipush (-12), 2) := by decide +kernel
theorem dX12_cell_43 : decode cX12_cell 43 = .ok (.ireturn, 1) := by decide +kernel
theorem dX12_cell_44 : decode cX12_cell 44 = .ok (.aload_n 0, 1) := by decide +kernel
theorem dX12_cell_45 : decode cX12_cell 45 = .ok (.getfield 43, 3) := by decide +kernel
theorem dX12_cell_48 : decode cX12_cell 48 = .ok (.bipush 40, 2) := by decide +kernel
theorem dX12_cell_50 : decode cX12_cell 50 = .ok (.iload_n 1, 1) := by decide +kernel
theorem dX12_cell_51 : decode cX12_cell 51 = .ok (.imul, 1) := by decide +kernel
theorem dX12_cell_52 : decode cX12_cell 52 = .ok (.iload_n 2, 1) := by decide +kernel
theorem dX12_cell_53 : decode cX12_cell 53 = .ok (.iadd, 1) := by decide +kernel
theorem dX12_cell_54 : decode cX12_cell 54 = .ok (.aload_n 0, 1) := by decide +kernel
theorem dX12_cell_55 : decode cX12_cell 55 = .ok (.getfield 37, 3) := by decide +kernel
theorem dX12_cell_58 : decode cX12_cell 58 = .ok (.iload_n 1, 1) := by decide +kernel
theorem dX12_cell_59 : decode cX12_cell 59 = .ok (.iaload, 1) := by decide +kernel
theorem dX12_cell_60 : decode cX12_cell 60 = .ok (.ifCond .ne 8, 3) := by decide +kernel
theorem dX12_cell_63 : decode cX12_cell 63 = .ok (.iload_n 3, 1) := by decide +kernel
theorem dX12_cell_64 : decode cX12_cell 64 = .ok (.i2b, 1) := by decide +kernel
theorem dX12_cell_65 : decode cX12_cell 65 = .ok (.goto 19, 3) := by decide +kernel
theorem dX12_cell_68 : decode cX12_cell 68 = .ok (.aload_n 0, 1) := by decide +kernel
theorem dX12_cell_69 : decode cX12_cell 69 = .ok (.getfield 37, 3) := by decide +kernel
theorem dX12_cell_72 : decode cX12_cell 72 = .ok (.iload_n 1, 1) := by decide +kernel
theorem dX12_cell_73 : decode cX12_cell 73 = .ok (.iaload, 1) := by decide +kernel
theorem dX12_cell_74 : decode cX12_cell 74 = .ok (.iconst 1, 1) := by decide +kernel
theorem dX12_cell_75 : decode cX12_cell 75 = .ok (.if_icmp .ne 8, 3) := by decide +kernel
theorem dX12_cell_78 : decode cX12_cell 78 = .ok (.iload_n 3, 1) := by decide +kernel
theorem dX12_cell_79 : decode cX12_cell 79 = .ok (.i2s, 1) := by decide +kernel
theorem dX12_cell_80 : decode cX12_cell 80 = .ok (.goto 4, 3) := by decide +kernel
theorem dX12_cell_83 : decode cX12_cell 83 = .ok (.iload_n 3, 1) := by decide +kernel
theorem dX12_cell_84 : decode cX12_cell 84 = .ok (.iastore, 1) := by decide +kernel
theorem dX12_cell_85 : decode cX12_cell 85 = .ok (.iconst 1, 1) := by decide +kernel
theorem dX12_cell_86 : decode cX12_cell 86 = .ok (.ireturn, 1) := by decide +kernel
set_option maxRecDepth 100000 in
set_option maxHeartbeats 4000000 in
theorem kX12_cell (l : Launch) (w : wT) (hw : yOk w 20) (σ : Hp) (a1 : Int32) (a2 : Int32) (a3 : Int32) (K : Int32 → Hp → Prop) (hv : VX12_cell K σ a1 a2 a3) : yMet l w mcf 20 yX12_cell cX12_cell 4 (some .int) 2 [.ref (w.1 0), .int a1, .int a2, .int a3] σ (yQi w mcf 20 K) := by
  unfold VX12_cell at hv
  refine y_start (lv0 := [(0, .ref (w.1 0)), (1, .int a1), (2, .int a2), (3, .int a3)]) (by decide +kernel) (own := RX12) rfl hw (Nat.le_of_ble_eq_true rfl) rfl (fun p e s m below meth c A E => ?_)
  refine y_iload_n E dX12_cell_0 1 rfl ?_
  refine y_iconst (v := 0) E dX12_cell_1 (by decide) ?_
  refine y_iconst (v := 3) E dX12_cell_2 (by decide) ?_
  refine y_calli E (y_runS E (rest := []) (kX12_in l w E.2.2.1 σ a1 0 3 _ hv) (y_cwS 3 E.1.2.2.2.2 wm_477 wm_478 wm_479 wm_480 (by decide +kernel) (yRm_le (by decide) (by decide))) rfl rfl (Nat.le_of_ble_eq_true rfl) dX12_cell_3) (fun v1 u2 hk => ?_)
  clear hv
  have hv := hk
  clear hk
  refine y_if_ne (tgt := 12) E dX12_cell_6 (by decide) (fun c3 => ?_) (fun c3 => ?_)
  · replace hv := ite_f hv c3
    refine y_aload_n E dX12_cell_12 0 rfl ?_
    refine gf_X12_17 E (by decide) (by decide) wm_652 dX12_cell_13 ?_
    refine y_iload_n E dX12_cell_16 1 rfl ?_
    obtain ⟨hi, hv⟩ := hv
    refine y_iald E (Nat.lt_of_lt_of_le (show 10 < 11 by decide) (by decide)) (mc_m_sheetSort (by decide) (by decide)) hi dX12_cell_17 ?_
    refine y_iconst (v := (-1)) E dX12_cell_18 (by decide) ?_
    refine y_icmp_ne (tgt := 25) E dX12_cell_19 (by decide) (fun c4 => ?_) (fun c4 => ?_)
    · replace hv := ite_f hv c4
      refine y_iload_n E dX12_cell_25 2 rfl ?_
      refine y_iconst (v := 0) E dX12_cell_26 (by decide) ?_
      refine y_aload_n E dX12_cell_27 0 rfl ?_
      refine gf_X12_18 E (by decide) (by decide) wm_653 dX12_cell_28 ?_
      refine y_iload_n E dX12_cell_31 1 rfl ?_
      obtain ⟨hi, hv⟩ := hv
      refine y_iald E (Nat.lt_of_lt_of_le (show 11 < 12 by decide) (by decide)) (mc_m_sheetSize (by decide) (by decide)) hi dX12_cell_32 ?_
      refine y_iconst (v := 1) E dX12_cell_33 (by decide) ?_
      refine y_isub E dX12_cell_34 ?_
      refine y_calli E (y_runS E (rest := []) (kX12_in l w E.2.2.1 u2 a2 0 ((u2 11 a1.toNatClampNeg) - 1) _ hv) (y_cwS 3 E.1.2.2.2.2 wm_477 wm_478 wm_479 wm_480 (by decide +kernel) (yRm_le (by decide) (by decide))) rfl rfl (Nat.le_of_ble_eq_true rfl) dX12_cell_35) (fun v5 u6 hk => ?_)
      clear hv
      have hv := hk
      clear hk
      refine y_if_ne (tgt := 44) E dX12_cell_38 (by decide) (fun c7 => ?_) (fun c7 => ?_)
      · replace hv := ite_f hv c7
        refine y_aload_n E dX12_cell_44 0 rfl ?_
        refine gf_X12_19 E (by decide) (by decide) wm_658 dX12_cell_45 ?_
        refine y_bipush (v := 40) E dX12_cell_48 (by decide) ?_
        refine y_iload_n E dX12_cell_50 1 rfl ?_
        refine y_imul E dX12_cell_51 ?_
        refine y_iload_n E dX12_cell_52 2 rfl ?_
        refine y_iadd E dX12_cell_53 ?_
        refine y_aload_n E dX12_cell_54 0 rfl ?_
        refine gf_X12_17 E (by decide) (by decide) wm_652 dX12_cell_55 ?_
        refine y_iload_n E dX12_cell_58 1 rfl ?_
        obtain ⟨hi, hv⟩ := hv
        refine y_iald E (Nat.lt_of_lt_of_le (show 10 < 11 by decide) (by decide)) (mc_m_sheetSort (by decide) (by decide)) hi dX12_cell_59 ?_
        refine y_if_ne (tgt := 68) E dX12_cell_60 (by decide) (fun c8 => ?_) (fun c8 => ?_)
        · replace hv := ite_f hv c8
          refine y_aload_n E dX12_cell_68 0 rfl ?_
          refine gf_X12_17 E (by decide) (by decide) wm_652 dX12_cell_69 ?_
          refine y_iload_n E dX12_cell_72 1 rfl ?_
          obtain ⟨hi, hv⟩ := hv
          refine y_iald E (Nat.lt_of_lt_of_le (show 10 < 11 by decide) (by decide)) (mc_m_sheetSort (by decide) (by decide)) hi dX12_cell_73 ?_
          refine y_iconst (v := 1) E dX12_cell_74 (by decide) ?_
          refine y_icmp_ne (tgt := 83) E dX12_cell_75 (by decide) (fun c9 => ?_) (fun c9 => ?_)
          · replace hv := ite_f hv c9
            refine y_iload_n E dX12_cell_83 3 rfl ?_
            obtain ⟨hi, hv⟩ := hv
            refine y_iast E (Nat.lt_of_lt_of_le (show 12 < 13 by decide) (by decide)) (fun _ => mc_m_cells (by decide) (by decide)) hi dX12_cell_84 ?_
            refine y_nmH (fun u10 hu10 => ?_)
            replace hv := hv u10 hu10
            refine y_iconst (v := 1) E dX12_cell_85 (by decide) ?_
            exact y_iret E dX12_cell_86 hv
          · replace hv := ite_t hv c9
            refine y_iload_n E dX12_cell_78 3 rfl ?_
            refine y_i2s E dX12_cell_79 ?_
            refine y_goto (tgt := 84) E dX12_cell_80 (by decide) ?_
            obtain ⟨hi, hv⟩ := hv
            refine y_iast E (Nat.lt_of_lt_of_le (show 12 < 13 by decide) (by decide)) (fun _ => mc_m_cells (by decide) (by decide)) hi dX12_cell_84 ?_
            refine y_nmH (fun u11 hu11 => ?_)
            replace hv := hv u11 hu11
            refine y_iconst (v := 1) E dX12_cell_85 (by decide) ?_
            exact y_iret E dX12_cell_86 hv
        · replace hv := ite_t hv c8
          refine y_iload_n E dX12_cell_63 3 rfl ?_
          refine y_i2b E dX12_cell_64 ?_
          refine y_goto (tgt := 84) E dX12_cell_65 (by decide) ?_
          obtain ⟨hi, hv⟩ := hv
          refine y_iast E (Nat.lt_of_lt_of_le (show 12 < 13 by decide) (by decide)) (fun _ => mc_m_cells (by decide) (by decide)) hi dX12_cell_84 ?_
          refine y_nmH (fun u12 hu12 => ?_)
          replace hv := hv u12 hu12
          refine y_iconst (v := 1) E dX12_cell_85 (by decide) ?_
          exact y_iret E dX12_cell_86 hv
      · replace hv := ite_t hv c7
        refine y_bipush (v := (-12)) E dX12_cell_41 (by decide) ?_
        exact y_iret E dX12_cell_43 hv
    · replace hv := ite_t hv c4
      refine y_bipush (v := (-11)) E dX12_cell_22 (by decide) ?_
      exact y_iret E dX12_cell_24 hv
  · replace hv := ite_t hv c3
    refine y_bipush (v := (-2)) E dX12_cell_9 (by decide) ?_
    exact y_iret E dX12_cell_11 hv
theorem dX12_copy_0 : decode cX12_copy 0 = .ok (.iload_n 1, 1) := by decide +kernel
theorem dX12_copy_1 : decode cX12_copy 1 = .ok (.iconst 0, 1) := by decide +kernel
theorem dX12_copy_2 : decode cX12_copy 2 = .ok (.iconst 3, 1) := by decide +kernel
theorem dX12_copy_3 : decode cX12_copy 3 = .ok (.invokestatic 75, 3) := by decide +kernel
theorem dX12_copy_6 : decode cX12_copy 6 = .ok (.ifCond .eq 12, 3) := by decide +kernel
theorem dX12_copy_9 : decode cX12_copy 9 = .ok (.iload_n 3, 1) := by decide +kernel
theorem dX12_copy_10 : decode cX12_copy 10 = .ok (.iconst 0, 1) := by decide +kernel
theorem dX12_copy_11 : decode cX12_copy 11 = .ok (.iconst 3, 1) := by decide +kernel
theorem dX12_copy_12 : decode cX12_copy 12 = .ok (.invokestatic 75, 3) := by decide +kernel
theorem dX12_copy_15 : decode cX12_copy 15 = .ok (.ifCond .ne 6, 3) := by decide +kernel
theorem dX12_copy_18 : decode cX12_copy 18 = .ok (.bipush (-2), 2) := by decide +kernel
theorem dX12_copy_20 : decode cX12_copy 20 = .ok (.ireturn, 1) := by decide +kernel
theorem dX12_copy_21 : decode cX12_copy 21 = .ok (.aload_n 0, 1) := by decide +kernel
theorem dX12_copy_22 : decode cX12_copy 22 = .ok (.getfield 37, 3) := by decide +kernel
theorem dX12_copy_25 : decode cX12_copy 25 = .ok (.iload_n 1, 1) := by decide +kernel
theorem dX12_copy_26 : decode cX12_copy 26 = .ok (.iaload, 1) := by decide +kernel
theorem dX12_copy_27 : decode cX12_copy 27 = .ok (.iconst (-1), 1) := by decide +kernel
theorem dX12_copy_28 : decode cX12_copy 28 = .ok (.if_icmp .eq 13, 3) := by decide +kernel
theorem dX12_copy_31 : decode cX12_copy 31 = .ok (.aload_n 0, 1) := by decide +kernel
theorem dX12_copy_32 : decode cX12_copy 32 = .ok (.getfield 37, 3) := by decide +kernel
theorem dX12_copy_35 : decode cX12_copy 35 = .ok (.iload_n 3, 1) := by decide +kernel
theorem dX12_copy_36 : decode cX12_copy 36 = .ok (.iaload, 1) := by decide +kernel
theorem dX12_copy_37 : decode cX12_copy 37 = .ok (.iconst (-1), 1) := by decide +kernel
theorem dX12_copy_38 : decode cX12_copy 38 = .ok (.if_icmp .ne 6, 3) := by decide +kernel
theorem dX12_copy_41 : decode cX12_copy 41 = .ok (.bipush (-11), 2) := by decide +kernel
theorem dX12_copy_43 : decode cX12_copy 43 = .ok (.ireturn, 1) := by decide +kernel
theorem dX12_copy_44 : decode cX12_copy 44 = .ok (.aload_n 0, 1) := by decide +kernel
theorem dX12_copy_45 : decode cX12_copy 45 = .ok (.getfield 37, 3) := by decide +kernel
theorem dX12_copy_48 : decode cX12_copy 48 = .ok (.iload_n 1, 1) := by decide +kernel
theorem dX12_copy_49 : decode cX12_copy 49 = .ok (.iaload, 1) := by decide +kernel
theorem dX12_copy_50 : decode cX12_copy 50 = .ok (.aload_n 0, 1) := by decide +kernel
theorem dX12_copy_51 : decode cX12_copy 51 = .ok (.getfield 37, 3) := by decide +kernel
theorem dX12_copy_54 : decode cX12_copy 54 = .ok (.iload_n 3, 1) := by decide +kernel
theorem dX12_copy_55 : decode cX12_copy 55 = .ok (.iaload, 1) := by decide +kernel
theorem dX12_copy_56 : decode cX12_copy 56 = .ok (.if_icmp .eq 6, 3) := by decide +kernel
theorem dX12_copy_59 : decode cX12_copy 59 = .ok (.bipush (-13), 2) := by decide +kernel
theorem dX12_copy_61 : decode cX12_copy 61 = .ok (.ireturn, 1) := by decide +kernel
theorem dX12_copy_62 : decode cX12_copy 62 = .ok (.iload 5, 2) := by decide +kernel
theorem dX12_copy_64 : decode cX12_copy 64 = .ok (.ifCond .lt 60, 3) := by decide +kernel
theorem dX12_copy_67 : decode cX12_copy 67 = .ok (.iload_n 2, 1) := by decide +kernel
theorem dX12_copy_68 : decode cX12_copy 68 = .ok (.ifCond .lt 56, 3) := by decide +kernel
theorem dX12_copy_71 : decode cX12_copy 71 = .ok (.iload 4, 2) := by decide +kernel
theorem dX12_copy_73 : decode cX12_copy 73 = .ok (.ifCond .lt 51, 3) := by decide +kernel
theorem dX12_copy_76 : decode cX12_copy 76 = .ok (.iload_n 2, 1) := by decide +kernel
theorem dX12_copy_77 : decode cX12_copy 77 = .ok (.aload_n 0, 1) := by decide +kernel
theorem dX12_copy_78 : decode cX12_copy 78 = .ok (.getfield 40, 3) := by decide +kernel
theorem dX12_copy_81 : decode cX12_copy 81 = .ok (.iload_n 1, 1) := by decide +kernel
theorem dX12_copy_82 : decode cX12_copy 82 = .ok (.iaload, 1) := by decide +kernel
theorem dX12_copy_83 : decode cX12_copy 83 = .ok (.if_icmp .gt 41, 3) := by decide +kernel
theorem dX12_copy_86 : decode cX12_copy 86 = .ok (.iload 4, 2) := by decide +kernel
theorem dX12_copy_88 : decode cX12_copy 88 = .ok (.aload_n 0, 1) := by decide +kernel
theorem dX12_copy_89 : decode cX12_copy 89 = .ok (.getfield 40, 3) := by decide +kernel
theorem dX12_copy_92 : decode cX12_copy 92 = .ok (.iload_n 3, 1) := by decide +kernel
theorem dX12_copy_93 : decode cX12_copy 93 = .ok (.iaload, 1) := by decide +kernel
theorem dX12_copy_94 : decode cX12_copy 94 = .ok (.if_icmp .gt 30, 3) := by decide +kernel
theorem dX12_copy_97 : decode cX12_copy 97 = .ok (.iload 5, 2) := by decide +kernel
theorem dX12_copy_99 : decode cX12_copy 99 = .ok (.aload_n 0, 1) := by decide +kernel
theorem dX12_copy_100 : decode cX12_copy 100 = .ok (.getfield 40, 3) := by decide +kernel
theorem dX12_copy_103 : decode cX12_copy 103 = .ok (.iload_n 1, 1) := by decide +kernel
theorem dX12_copy_104 : decode cX12_copy 104 = .ok (.iaload, 1) := by decide +kernel
theorem dX12_copy_105 : decode cX12_copy 105 = .ok (.iload_n 2, 1) := by decide +kernel
theorem dX12_copy_106 : decode cX12_copy 106 = .ok (.isub, 1) := by decide +kernel
theorem dX12_copy_107 : decode cX12_copy 107 = .ok (.if_icmp .gt 17, 3) := by decide +kernel
theorem dX12_copy_110 : decode cX12_copy 110 = .ok (.iload 5, 2) := by decide +kernel
theorem dX12_copy_112 : decode cX12_copy 112 = .ok (.aload_n 0, 1) := by decide +kernel
theorem dX12_copy_113 : decode cX12_copy 113 = .ok (.getfield 40, 3) := by decide +kernel
theorem dX12_copy_116 : decode cX12_copy 116 = .ok (.iload_n 3, 1) := by decide +kernel
theorem dX12_copy_117 : decode cX12_copy 117 = .ok (.iaload, 1) := by decide +kernel
theorem dX12_copy_118 : decode cX12_copy 118 = .ok (.iload 4, 2) := by decide +kernel
theorem dX12_copy_120 : decode cX12_copy 120 = .ok (.isub, 1) := by decide +kernel
theorem dX12_copy_121 : decode cX12_copy 121 = .ok (.if_icmp .le 6, 3) := by decide +kernel
theorem dX12_copy_124 : decode cX12_copy 124 = .ok (.bipush (-12), 2) := by decide +kernel
theorem dX12_copy_126 : decode cX12_copy 126 = .ok (.ireturn, 1) := by decide +kernel
theorem dX12_copy_127 : decode cX12_copy 127 = .ok (.bipush 40, 2) := by decide +kernel
theorem dX12_copy_129 : decode cX12_copy 129 = .ok (.iload_n 1, 1) := by decide +kernel
theorem dX12_copy_130 : decode cX12_copy 130 = .ok (.imul, 1) := by decide +kernel
theorem dX12_copy_131 : decode cX12_copy 131 = .ok (.iload_n 2, 1) := by decide +kernel
theorem dX12_copy_132 : decode cX12_copy 132 = .ok (.iadd, 1) := by decide +kernel
theorem dX12_copy_133 : decode cX12_copy 133 = .ok (.istore 6, 2) := by decide +kernel
theorem dX12_copy_135 : decode cX12_copy 135 = .ok (.bipush 40, 2) := by decide +kernel
theorem dX12_copy_137 : decode cX12_copy 137 = .ok (.iload_n 3, 1) := by decide +kernel
theorem dX12_copy_138 : decode cX12_copy 138 = .ok (.imul, 1) := by decide +kernel
theorem dX12_copy_139 : decode cX12_copy 139 = .ok (.iload 4, 2) := by decide +kernel
theorem dX12_copy_141 : decode cX12_copy 141 = .ok (.iadd, 1) := by decide +kernel
theorem dX12_copy_142 : decode cX12_copy 142 = .ok (.istore 7, 2) := by decide +kernel
theorem dX12_copy_144 : decode cX12_copy 144 = .ok (.iconst 0, 1) := by decide +kernel
theorem dX12_copy_145 : decode cX12_copy 145 = .ok (.istore 8, 2) := by decide +kernel
theorem dX12_copy_147 : decode cX12_copy 147 = .ok (.iload 8, 2) := by decide +kernel
theorem dX12_copy_149 : decode cX12_copy 149 = .ok (.iload 5, 2) := by decide +kernel
theorem dX12_copy_151 : decode cX12_copy 151 = .ok (.if_icmp .ge 50, 3) := by decide +kernel
theorem dX12_copy_154 : decode cX12_copy 154 = .ok (.iload 6, 2) := by decide +kernel
theorem dX12_copy_156 : decode cX12_copy 156 = .ok (.iload 7, 2) := by decide +kernel
theorem dX12_copy_158 : decode cX12_copy 158 = .ok (.if_icmp .ge 13, 3) := by decide +kernel
theorem dX12_copy_161 : decode cX12_copy 161 = .ok (.iload 5, 2) := by decide +kernel
theorem dX12_copy_163 : decode cX12_copy 163 = .ok (.iconst 1, 1) := by decide +kernel
theorem dX12_copy_164 : decode cX12_copy 164 = .ok (.isub, 1) := by decide +kernel
theorem dX12_copy_165 : decode cX12_copy 165 = .ok (.iload 8, 2) := by decide +kernel
theorem dX12_copy_167 : decode cX12_copy 167 = .ok (.isub, 1) := by decide +kernel
theorem dX12_copy_168 : decode cX12_copy 168 = .ok (.goto 5, 3) := by decide +kernel
theorem dX12_copy_171 : decode cX12_copy 171 = .ok (.iload 8, 2) := by decide +kernel
theorem dX12_copy_173 : decode cX12_copy 173 = .ok (.istore 9, 2) := by decide +kernel
theorem dX12_copy_175 : decode cX12_copy 175 = .ok (.aload_n 0, 1) := by decide +kernel
theorem dX12_copy_176 : decode cX12_copy 176 = .ok (.getfield 43, 3) := by decide +kernel
theorem dX12_copy_179 : decode cX12_copy 179 = .ok (.iload 7, 2) := by decide +kernel
theorem dX12_copy_181 : decode cX12_copy 181 = .ok (.iload 9, 2) := by decide +kernel
theorem dX12_copy_183 : decode cX12_copy 183 = .ok (.iadd, 1) := by decide +kernel
theorem dX12_copy_184 : decode cX12_copy 184 = .ok (.aload_n 0, 1) := by decide +kernel
theorem dX12_copy_185 : decode cX12_copy 185 = .ok (.getfield 43, 3) := by decide +kernel
theorem dX12_copy_188 : decode cX12_copy 188 = .ok (.iload 6, 2) := by decide +kernel
theorem dX12_copy_190 : decode cX12_copy 190 = .ok (.iload 9, 2) := by decide +kernel
theorem dX12_copy_192 : decode cX12_copy 192 = .ok (.iadd, 1) := by decide +kernel
theorem dX12_copy_193 : decode cX12_copy 193 = .ok (.iaload, 1) := by decide +kernel
theorem dX12_copy_194 : decode cX12_copy 194 = .ok (.iastore, 1) := by decide +kernel
theorem dX12_copy_195 : decode cX12_copy 195 = .ok (.iinc 8 1, 3) := by decide +kernel
theorem dX12_copy_198 : decode cX12_copy 198 = .ok (.goto (-51), 3) := by decide +kernel
theorem dX12_copy_201 : decode cX12_copy 201 = .ok (.iload 5, 2) := by decide +kernel
theorem dX12_copy_203 : decode cX12_copy 203 = .ok (.ireturn, 1) := by decide +kernel
set_option maxRecDepth 100000 in
set_option maxHeartbeats 4000000 in
theorem kX12_copy (l : Launch) (w : wT) (hw : yOk w 20) (σ : Hp) (a1 : Int32) (a2 : Int32) (a3 : Int32) (a4 : Int32) (a5 : Int32) (K : Int32 → Hp → Prop) (hv : VX12_copy K σ a1 a2 a3 a4 a5) : yMet l w mcf 20 yX12_copy cX12_copy 10 (some .int) 2 [.ref (w.1 0), .int a1, .int a2, .int a3, .int a4, .int a5] σ (yQi w mcf 20 K) := by
  unfold VX12_copy at hv
  refine y_start (lv0 := [(0, .ref (w.1 0)), (1, .int a1), (2, .int a2), (3, .int a3), (4, .int a4), (5, .int a5)]) (by decide +kernel) (own := RX12) rfl hw (Nat.le_of_ble_eq_true rfl) rfl (fun p e s m below meth c A E => ?_)
  have hL147 : ∀ (n147 : Nat) (σ : Hp) (l5 : Int32) (l6 : Int32) (l7 : Int32) (l8 : Int32), VX12_copy_L147 K n147 σ l5 l6 l7 l8 → YY p l e (yRm 2) s m [.ref (w.1 0), .int a1, .int a2, .int a3, .int a4, .int a5].toArray below meth c w mcf 20 A (MQ below (yQi w mcf 20 K A) [.ref (w.1 0), .int a1, .int a2, .int a3, .int a4, .int a5].toArray s 0 0 A) 10 σ 147 [(0, .ref (w.1 0)), (5, .int l5), (6, .int l6), (7, .int l7), (8, .int l8)] [] := by
    intro n147
    induction n147 with
    | zero => exact fun _ _ _ _ _ hv => (by unfold VX12_copy_L147 at hv; exact hv.elim)
    | succ n147 ih147 =>
      have hb173 : ∀ (σ : Hp) (l5 : Int32) (l6 : Int32) (l7 : Int32) (l8 : Int32) (s0 : Int32), VX12_copy_b173 K (VX12_copy_L147 K n147) σ l5 l6 l7 l8 s0 → YY p l e (yRm 2) s m [.ref (w.1 0), .int a1, .int a2, .int a3, .int a4, .int a5].toArray below meth c w mcf 20 A (MQ below (yQi w mcf 20 K A) [.ref (w.1 0), .int a1, .int a2, .int a3, .int a4, .int a5].toArray s 0 0 A) 10 σ 173 [(0, .ref (w.1 0)), (5, .int l5), (6, .int l6), (7, .int l7), (8, .int l8)] [.int s0] := by
        intro σ l5 l6 l7 l8 s0 hv
        unfold VX12_copy_b173 at hv
        refine y_istore (lv' := [(9, .int s0), (0, .ref (w.1 0)), (5, .int l5), (6, .int l6), (7, .int l7), (8, .int l8)]) E dX12_copy_173 (by decide) rfl ?_
        refine y_aload_n E dX12_copy_175 1 rfl ?_
        refine gf_X12_19 E (by decide) (by decide) wm_658 dX12_copy_176 ?_
        refine y_iload E dX12_copy_179 4 rfl ?_
        refine y_iload E dX12_copy_181 0 rfl ?_
        refine y_iadd E dX12_copy_183 ?_
        refine y_aload_n E dX12_copy_184 1 rfl ?_
        refine gf_X12_19 E (by decide) (by decide) wm_658 dX12_copy_185 ?_
        refine y_iload E dX12_copy_188 3 rfl ?_
        refine y_iload E dX12_copy_190 0 rfl ?_
        refine y_iadd E dX12_copy_192 ?_
        obtain ⟨hi, hv⟩ := hv
        refine y_iald E (Nat.lt_of_lt_of_le (show 12 < 13 by decide) (by decide)) (mc_m_cells (by decide) (by decide)) hi dX12_copy_193 ?_
        obtain ⟨hi, hv⟩ := hv
        refine y_iast E (Nat.lt_of_lt_of_le (show 12 < 13 by decide) (by decide)) (fun _ => mc_m_cells (by decide) (by decide)) hi dX12_copy_194 ?_
        refine y_nmH (fun u21 hu21 => ?_)
        replace hv := hv u21 hu21
        obtain ⟨x22, hx22⟩ : ∃ z : Int32, z = l8 + 1 := ⟨_, rfl⟩
        replace hv := hv x22 hx22
        refine y_iinc (v := x22) (lv' := [(8, .int x22), (9, .int s0), (0, .ref (w.1 0)), (5, .int l5), (6, .int l6), (7, .int l7)]) E dX12_copy_195 5 rfl (by rw [hx22]; rfl) (by decide) rfl ?_
        refine y_goto (tgt := 147) E dX12_copy_198 (by decide) ?_
        refine y_lv (lv' := [(0, .ref (w.1 0)), (5, .int l5), (6, .int l6), (7, .int l7), (8, .int x22)]) [2, 3, 4, 5, 0] rfl ?_
        exact ih147 u21 l5 l6 l7 x22 hv
      intro σ l5 l6 l7 l8 hv
      unfold VX12_copy_L147 at hv
      refine y_iload E dX12_copy_147 4 rfl ?_
      refine y_iload E dX12_copy_149 1 rfl ?_
      refine y_icmp_ge (tgt := 201) E dX12_copy_151 (by decide) (fun c19 => ?_) (fun c19 => ?_)
      · replace hv := ite_t hv c19
        refine y_iload E dX12_copy_201 1 rfl ?_
        exact y_iret E dX12_copy_203 hv
      · replace hv := ite_f hv c19
        refine y_iload E dX12_copy_154 2 rfl ?_
        refine y_iload E dX12_copy_156 3 rfl ?_
        refine y_icmp_ge (tgt := 171) E dX12_copy_158 (by decide) (fun c20 => ?_) (fun c20 => ?_)
        · replace hv := ite_t hv c20
          refine y_iload E dX12_copy_171 4 rfl ?_
          exact hb173 σ l5 l6 l7 l8 l8 hv
        · replace hv := ite_f hv c20
          refine y_iload E dX12_copy_161 1 rfl ?_
          refine y_iconst (v := 1) E dX12_copy_163 (by decide) ?_
          refine y_isub E dX12_copy_164 ?_
          refine y_iload E dX12_copy_165 4 rfl ?_
          refine y_isub E dX12_copy_167 ?_
          refine y_goto (tgt := 173) E dX12_copy_168 (by decide) ?_
          exact hb173 σ l5 l6 l7 l8 ((l5 - 1) - l8) hv
  refine y_iload_n E dX12_copy_0 1 rfl ?_
  refine y_iconst (v := 0) E dX12_copy_1 (by decide) ?_
  refine y_iconst (v := 3) E dX12_copy_2 (by decide) ?_
  refine y_calli E (y_runS E (rest := []) (kX12_in l w E.2.2.1 σ a1 0 3 _ hv) (y_cwS 3 E.1.2.2.2.2 wm_477 wm_478 wm_479 wm_480 (by decide +kernel) (yRm_le (by decide) (by decide))) rfl rfl (Nat.le_of_ble_eq_true rfl) dX12_copy_3) (fun v1 u2 hk => ?_)
  clear hv
  have hv := hk
  clear hk
  refine y_if_eq (tgt := 18) E dX12_copy_6 (by decide) (fun c3 => ?_) (fun c3 => ?_)
  · replace hv := ite_t hv c3
    refine y_bipush (v := (-2)) E dX12_copy_18 (by decide) ?_
    exact y_iret E dX12_copy_20 hv
  · replace hv := ite_f hv c3
    refine y_iload_n E dX12_copy_9 3 rfl ?_
    refine y_iconst (v := 0) E dX12_copy_10 (by decide) ?_
    refine y_iconst (v := 3) E dX12_copy_11 (by decide) ?_
    refine y_calli E (y_runS E (rest := []) (kX12_in l w E.2.2.1 u2 a3 0 3 _ hv) (y_cwS 3 E.1.2.2.2.2 wm_477 wm_478 wm_479 wm_480 (by decide +kernel) (yRm_le (by decide) (by decide))) rfl rfl (Nat.le_of_ble_eq_true rfl) dX12_copy_12) (fun v4 u5 hk => ?_)
    clear hv
    have hv := hk
    clear hk
    refine y_if_ne (tgt := 21) E dX12_copy_15 (by decide) (fun c6 => ?_) (fun c6 => ?_)
    · replace hv := ite_f hv c6
      refine y_aload_n E dX12_copy_21 0 rfl ?_
      refine gf_X12_17 E (by decide) (by decide) wm_652 dX12_copy_22 ?_
      refine y_iload_n E dX12_copy_25 1 rfl ?_
      obtain ⟨hi, hv⟩ := hv
      refine y_iald E (Nat.lt_of_lt_of_le (show 10 < 11 by decide) (by decide)) (mc_m_sheetSort (by decide) (by decide)) hi dX12_copy_26 ?_
      refine y_iconst (v := (-1)) E dX12_copy_27 (by decide) ?_
      refine y_icmp_eq (tgt := 41) E dX12_copy_28 (by decide) (fun c7 => ?_) (fun c7 => ?_)
      · replace hv := ite_t hv c7
        refine y_bipush (v := (-11)) E dX12_copy_41 (by decide) ?_
        exact y_iret E dX12_copy_43 hv
      · replace hv := ite_f hv c7
        refine y_aload_n E dX12_copy_31 0 rfl ?_
        refine gf_X12_17 E (by decide) (by decide) wm_652 dX12_copy_32 ?_
        refine y_iload_n E dX12_copy_35 3 rfl ?_
        obtain ⟨hi, hv⟩ := hv
        refine y_iald E (Nat.lt_of_lt_of_le (show 10 < 11 by decide) (by decide)) (mc_m_sheetSort (by decide) (by decide)) hi dX12_copy_36 ?_
        refine y_iconst (v := (-1)) E dX12_copy_37 (by decide) ?_
        refine y_icmp_ne (tgt := 44) E dX12_copy_38 (by decide) (fun c8 => ?_) (fun c8 => ?_)
        · replace hv := ite_f hv c8
          refine y_aload_n E dX12_copy_44 0 rfl ?_
          refine gf_X12_17 E (by decide) (by decide) wm_652 dX12_copy_45 ?_
          refine y_iload_n E dX12_copy_48 1 rfl ?_
          obtain ⟨hi, hv⟩ := hv
          refine y_iald E (Nat.lt_of_lt_of_le (show 10 < 11 by decide) (by decide)) (mc_m_sheetSort (by decide) (by decide)) hi dX12_copy_49 ?_
          refine y_aload_n E dX12_copy_50 0 rfl ?_
          refine gf_X12_17 E (by decide) (by decide) wm_652 dX12_copy_51 ?_
          refine y_iload_n E dX12_copy_54 3 rfl ?_
          obtain ⟨hi, hv⟩ := hv
          refine y_iald E (Nat.lt_of_lt_of_le (show 10 < 11 by decide) (by decide)) (mc_m_sheetSort (by decide) (by decide)) hi dX12_copy_55 ?_
          refine y_icmp_eq (tgt := 62) E dX12_copy_56 (by decide) (fun c9 => ?_) (fun c9 => ?_)
          · replace hv := ite_t hv c9
            refine y_iload E dX12_copy_62 5 rfl ?_
            refine y_if_lt (tgt := 124) E dX12_copy_64 (by decide) (fun c10 => ?_) (fun c10 => ?_)
            · replace hv := ite_t hv c10
              refine y_bipush (v := (-12)) E dX12_copy_124 (by decide) ?_
              exact y_iret E dX12_copy_126 hv
            · replace hv := ite_f hv c10
              refine y_iload_n E dX12_copy_67 2 rfl ?_
              refine y_if_lt (tgt := 124) E dX12_copy_68 (by decide) (fun c11 => ?_) (fun c11 => ?_)
              · replace hv := ite_t hv c11
                refine y_bipush (v := (-12)) E dX12_copy_124 (by decide) ?_
                exact y_iret E dX12_copy_126 hv
              · replace hv := ite_f hv c11
                refine y_iload E dX12_copy_71 4 rfl ?_
                refine y_if_lt (tgt := 124) E dX12_copy_73 (by decide) (fun c12 => ?_) (fun c12 => ?_)
                · replace hv := ite_t hv c12
                  refine y_bipush (v := (-12)) E dX12_copy_124 (by decide) ?_
                  exact y_iret E dX12_copy_126 hv
                · replace hv := ite_f hv c12
                  refine y_iload_n E dX12_copy_76 2 rfl ?_
                  refine y_aload_n E dX12_copy_77 0 rfl ?_
                  refine gf_X12_18 E (by decide) (by decide) wm_653 dX12_copy_78 ?_
                  refine y_iload_n E dX12_copy_81 1 rfl ?_
                  obtain ⟨hi, hv⟩ := hv
                  refine y_iald E (Nat.lt_of_lt_of_le (show 11 < 12 by decide) (by decide)) (mc_m_sheetSize (by decide) (by decide)) hi dX12_copy_82 ?_
                  refine y_icmp_gt (tgt := 124) E dX12_copy_83 (by decide) (fun c13 => ?_) (fun c13 => ?_)
                  · replace hv := ite_t hv c13
                    refine y_bipush (v := (-12)) E dX12_copy_124 (by decide) ?_
                    exact y_iret E dX12_copy_126 hv
                  · replace hv := ite_f hv c13
                    refine y_iload E dX12_copy_86 4 rfl ?_
                    refine y_aload_n E dX12_copy_88 0 rfl ?_
                    refine gf_X12_18 E (by decide) (by decide) wm_653 dX12_copy_89 ?_
                    refine y_iload_n E dX12_copy_92 3 rfl ?_
                    obtain ⟨hi, hv⟩ := hv
                    refine y_iald E (Nat.lt_of_lt_of_le (show 11 < 12 by decide) (by decide)) (mc_m_sheetSize (by decide) (by decide)) hi dX12_copy_93 ?_
                    refine y_icmp_gt (tgt := 124) E dX12_copy_94 (by decide) (fun c14 => ?_) (fun c14 => ?_)
                    · replace hv := ite_t hv c14
                      refine y_bipush (v := (-12)) E dX12_copy_124 (by decide) ?_
                      exact y_iret E dX12_copy_126 hv
                    · replace hv := ite_f hv c14
                      refine y_iload E dX12_copy_97 5 rfl ?_
                      refine y_aload_n E dX12_copy_99 0 rfl ?_
                      refine gf_X12_18 E (by decide) (by decide) wm_653 dX12_copy_100 ?_
                      refine y_iload_n E dX12_copy_103 1 rfl ?_
                      obtain ⟨hi, hv⟩ := hv
                      refine y_iald E (Nat.lt_of_lt_of_le (show 11 < 12 by decide) (by decide)) (mc_m_sheetSize (by decide) (by decide)) hi dX12_copy_104 ?_
                      refine y_iload_n E dX12_copy_105 2 rfl ?_
                      refine y_isub E dX12_copy_106 ?_
                      refine y_icmp_gt (tgt := 124) E dX12_copy_107 (by decide) (fun c15 => ?_) (fun c15 => ?_)
                      · replace hv := ite_t hv c15
                        refine y_bipush (v := (-12)) E dX12_copy_124 (by decide) ?_
                        exact y_iret E dX12_copy_126 hv
                      · replace hv := ite_f hv c15
                        refine y_iload E dX12_copy_110 5 rfl ?_
                        refine y_aload_n E dX12_copy_112 0 rfl ?_
                        refine gf_X12_18 E (by decide) (by decide) wm_653 dX12_copy_113 ?_
                        refine y_iload_n E dX12_copy_116 3 rfl ?_
                        obtain ⟨hi, hv⟩ := hv
                        refine y_iald E (Nat.lt_of_lt_of_le (show 11 < 12 by decide) (by decide)) (mc_m_sheetSize (by decide) (by decide)) hi dX12_copy_117 ?_
                        refine y_iload E dX12_copy_118 4 rfl ?_
                        refine y_isub E dX12_copy_120 ?_
                        refine y_icmp_le (tgt := 127) E dX12_copy_121 (by decide) (fun c16 => ?_) (fun c16 => ?_)
                        · replace hv := ite_t hv c16
                          refine y_bipush (v := 40) E dX12_copy_127 (by decide) ?_
                          refine y_iload_n E dX12_copy_129 1 rfl ?_
                          refine y_imul E dX12_copy_130 ?_
                          refine y_iload_n E dX12_copy_131 2 rfl ?_
                          refine y_iadd E dX12_copy_132 ?_
                          refine y_nmi (fun x17 hx17 => ?_)
                          replace hv := hv x17 hx17
                          refine y_istore (lv' := [(6, .int x17), (0, .ref (w.1 0)), (1, .int a1), (2, .int a2), (3, .int a3), (4, .int a4), (5, .int a5)]) E dX12_copy_133 (by decide) rfl ?_
                          refine y_bipush (v := 40) E dX12_copy_135 (by decide) ?_
                          refine y_iload_n E dX12_copy_137 4 rfl ?_
                          refine y_imul E dX12_copy_138 ?_
                          refine y_iload E dX12_copy_139 5 rfl ?_
                          refine y_iadd E dX12_copy_141 ?_
                          refine y_nmi (fun x18 hx18 => ?_)
                          replace hv := hv x18 hx18
                          refine y_istore (lv' := [(7, .int x18), (6, .int x17), (0, .ref (w.1 0)), (1, .int a1), (2, .int a2), (3, .int a3), (4, .int a4), (5, .int a5)]) E dX12_copy_142 (by decide) rfl ?_
                          refine y_iconst (v := 0) E dX12_copy_144 (by decide) ?_
                          refine y_istore (lv' := [(8, .int 0), (7, .int x18), (6, .int x17), (0, .ref (w.1 0)), (1, .int a1), (2, .int a2), (3, .int a3), (4, .int a4), (5, .int a5)]) E dX12_copy_145 (by decide) rfl ?_
                          refine y_lv (lv' := [(0, .ref (w.1 0)), (5, .int a5), (6, .int x17), (7, .int x18), (8, .int 0)]) [3, 8, 2, 1, 0] rfl ?_
                          obtain ⟨n0, hv⟩ := hv
                          exact hL147 n0 u5 a5 x17 x18 0 hv
                        · replace hv := ite_f hv c16
                          refine y_bipush (v := (-12)) E dX12_copy_124 (by decide) ?_
                          exact y_iret E dX12_copy_126 hv
          · replace hv := ite_f hv c9
            refine y_bipush (v := (-13)) E dX12_copy_59 (by decide) ?_
            exact y_iret E dX12_copy_61 hv
        · replace hv := ite_t hv c8
          refine y_bipush (v := (-11)) E dX12_copy_41 (by decide) ?_
          exact y_iret E dX12_copy_43 hv
    · replace hv := ite_t hv c6
      refine y_bipush (v := (-2)) E dX12_copy_18 (by decide) ?_
      exact y_iret E dX12_copy_20 hv
theorem dX12_thingsBy_0 : decode cX12_thingsBy 0 = .ok (.iload_n 1, 1) := by decide +kernel
theorem dX12_thingsBy_1 : decode cX12_thingsBy 1 = .ok (.iconst 0, 1) := by decide +kernel
theorem dX12_thingsBy_2 : decode cX12_thingsBy 2 = .ok (.iconst 3, 1) := by decide +kernel
theorem dX12_thingsBy_3 : decode cX12_thingsBy 3 = .ok (.invokestatic 75, 3) := by decide +kernel
theorem dX12_thingsBy_6 : decode cX12_thingsBy 6 = .ok (.ifCond .eq 22, 3) := by decide +kernel
theorem dX12_thingsBy_9 : decode cX12_thingsBy 9 = .ok (.iload_n 2, 1) := by decide +kernel
theorem dX12_thingsBy_10 : decode cX12_thingsBy 10 = .ok (.iconst 0, 1) := by decide +kernel
theorem dX12_thingsBy_11 : decode cX12_thingsBy 11 = .ok (.iconst 2, 1) := by decide +kernel
theorem dX12_thingsBy_12 : decode cX12_thingsBy 12 = .ok (.invokestatic 75, 3) := by decide +kernel
theorem dX12_thingsBy_15 : decode cX12_thingsBy 15 = .ok (.ifCond .eq 13, 3) := by decide +kernel
theorem dX12_thingsBy_18 : decode cX12_thingsBy 18 = .ok (.iload 4, 2) := by decide +kernel
theorem dX12_thingsBy_20 : decode cX12_thingsBy 20 = .ok (.iconst 0, 1) := by decide +kernel
theorem dX12_thingsBy_21 : decode cX12_thingsBy 21 = .ok (.iconst 5, 1) := by decide +kernel
theorem dX12_thingsBy_22 : decode cX12_thingsBy 22 = .ok (.invokestatic 75, 3) := by decide +kernel
theorem dX12_thingsBy_25 : decode cX12_thingsBy 25 = .ok (.ifCond .ne 6, 3) := by decide +kernel
theorem dX12_thingsBy_28 : decode cX12_thingsBy 28 = .ok (.bipush (-2), 2) := by decide +kernel
theorem dX12_thingsBy_30 : decode cX12_thingsBy 30 = .ok (.ireturn, 1) := by decide +kernel
theorem dX12_thingsBy_31 : decode cX12_thingsBy 31 = .ok (.aload_n 0, 1) := by decide +kernel
theorem dX12_thingsBy_32 : decode cX12_thingsBy 32 = .ok (.getfield 37, 3) := by decide +kernel
theorem dX12_thingsBy_35 : decode cX12_thingsBy 35 = .ok (.iload_n 1, 1) := by decide +kernel
theorem dX12_thingsBy_36 : decode cX12_thingsBy 36 = .ok (.iaload, 1) := by decide +kernel
theorem dX12_thingsBy_37 : decode cX12_thingsBy 37 = .ok (.iconst (-1), 1) := by decide +kernel
theorem dX12_thingsBy_38 : decode cX12_thingsBy 38 = .ok (.if_icmp .ne 6, 3) := by decide +kernel
theorem dX12_thingsBy_41 : decode cX12_thingsBy 41 = .ok (.bipush (-11), 2) := by decide +kernel
theorem dX12_thingsBy_43 : decode cX12_thingsBy 43 = .ok (.ireturn, 1) := by decide +kernel
theorem dX12_thingsBy_44 : decode cX12_thingsBy 44 = .ok (.aload_n 0, 1) := by decide +kernel
theorem dX12_thingsBy_45 : decode cX12_thingsBy 45 = .ok (.getfield 37, 3) := by decide +kernel
theorem dX12_thingsBy_48 : decode cX12_thingsBy 48 = .ok (.iload_n 1, 1) := by decide +kernel
theorem dX12_thingsBy_49 : decode cX12_thingsBy 49 = .ok (.iaload, 1) := by decide +kernel
theorem dX12_thingsBy_50 : decode cX12_thingsBy 50 = .ok (.iload_n 2, 1) := by decide +kernel
theorem dX12_thingsBy_51 : decode cX12_thingsBy 51 = .ok (.if_icmp .eq 6, 3) := by decide +kernel
theorem dX12_thingsBy_54 : decode cX12_thingsBy 54 = .ok (.bipush (-13), 2) := by decide +kernel
theorem dX12_thingsBy_56 : decode cX12_thingsBy 56 = .ok (.ireturn, 1) := by decide +kernel
theorem dX12_thingsBy_57 : decode cX12_thingsBy 57 = .ok (.iconst 0, 1) := by decide +kernel
theorem dX12_thingsBy_58 : decode cX12_thingsBy 58 = .ok (.istore 5, 2) := by decide +kernel
theorem dX12_thingsBy_60 : decode cX12_thingsBy 60 = .ok (.iconst 0, 1) := by decide +kernel
theorem dX12_thingsBy_61 : decode cX12_thingsBy 61 = .ok (.istore 6, 2) := by decide +kernel
theorem dX12_thingsBy_63 : decode cX12_thingsBy 63 = .ok (.iload 6, 2) := by decide +kernel
theorem dX12_thingsBy_65 : decode cX12_thingsBy 65 = .ok (.iload 4, 2) := by decide +kernel
theorem dX12_thingsBy_67 : decode cX12_thingsBy 67 = .ok (.if_icmp .ge 94, 3) := by decide +kernel
theorem dX12_thingsBy_70 : decode cX12_thingsBy 70 = .ok (.iload_n 3, 1) := by decide +kernel
theorem dX12_thingsBy_71 : decode cX12_thingsBy 71 = .ok (.iconst 3, 1) := by decide +kernel
theorem dX12_thingsBy_72 : decode cX12_thingsBy 72 = .ok (.iload 6, 2) := by decide +kernel
theorem dX12_thingsBy_74 : decode cX12_thingsBy 74 = .ok (.imul, 1) := by decide +kernel
theorem dX12_thingsBy_75 : decode cX12_thingsBy 75 = .ok (.iadd, 1) := by decide +kernel
theorem dX12_thingsBy_76 : decode cX12_thingsBy 76 = .ok (.istore 7, 2) := by decide +kernel
theorem dX12_thingsBy_78 : decode cX12_thingsBy 78 = .ok (.iload_n 3, 1) := by decide +kernel
theorem dX12_thingsBy_79 : decode cX12_thingsBy 79 = .ok (.ifCond .lt 22, 3) := by decide +kernel
theorem dX12_thingsBy_82 : decode cX12_thingsBy 82 = .ok (.iload 7, 2) := by decide +kernel
theorem dX12_thingsBy_84 : decode cX12_thingsBy 84 = .ok (.iload_n 3, 1) := by decide +kernel
theorem dX12_thingsBy_85 : decode cX12_thingsBy 85 = .ok (.if_icmp .lt 16, 3) := by decide +kernel
theorem dX12_thingsBy_88 : decode cX12_thingsBy 88 = .ok (.iload 7, 2) := by decide +kernel
theorem dX12_thingsBy_90 : decode cX12_thingsBy 90 = .ok (.aload_n 0, 1) := by decide +kernel
theorem dX12_thingsBy_91 : decode cX12_thingsBy 91 = .ok (.getfield 40, 3) := by decide +kernel
theorem dX12_thingsBy_94 : decode cX12_thingsBy 94 = .ok (.iload_n 1, 1) := by decide +kernel
theorem dX12_thingsBy_95 : decode cX12_thingsBy 95 = .ok (.iaload, 1) := by decide +kernel
theorem dX12_thingsBy_96 : decode cX12_thingsBy 96 = .ok (.iconst 3, 1) := by decide +kernel
theorem dX12_thingsBy_97 : decode cX12_thingsBy 97 = .ok (.isub, 1) := by decide +kernel
theorem dX12_thingsBy_98 : decode cX12_thingsBy 98 = .ok (.if_icmp .le 6, 3) := by decide +kernel
theorem dX12_thingsBy_101 : decode cX12_thingsBy 101 = .ok (.bipush (-12), 2) := by decide +kernel
theorem dX12_thingsBy_103 : decode cX12_thingsBy 103 = .ok (.ireturn, 1) := by decide +kernel
theorem dX12_thingsBy_104 : decode cX12_thingsBy 104 = .ok (.bipush 40, 2) := by decide +kernel
theorem dX12_thingsBy_106 : decode cX12_thingsBy 106 = .ok (.iload_n 1, 1) := by decide +kernel
theorem dX12_thingsBy_107 : decode cX12_thingsBy 107 = .ok (.imul, 1) := by decide +kernel
theorem dX12_thingsBy_108 : decode cX12_thingsBy 108 = .ok (.iload 7, 2) := by decide +kernel
theorem dX12_thingsBy_110 : decode cX12_thingsBy 110 = .ok (.iadd, 1) := by decide +kernel
theorem dX12_thingsBy_111 : decode cX12_thingsBy 111 = .ok (.istore 8, 2) := by decide +kernel
theorem dX12_thingsBy_113 : decode cX12_thingsBy 113 = .ok (.iload 5, 2) := by decide +kernel
theorem dX12_thingsBy_115 : decode cX12_thingsBy 115 = .ok (.aload_n 0, 1) := by decide +kernel
theorem dX12_thingsBy_116 : decode cX12_thingsBy 116 = .ok (.aload_n 0, 1) := by decide +kernel
theorem dX12_thingsBy_117 : decode cX12_thingsBy 117 = .ok (.getfield 43, 3) := by decide +kernel
theorem dX12_thingsBy_120 : decode cX12_thingsBy 120 = .ok (.iload 8, 2) := by decide +kernel
theorem dX12_thingsBy_122 : decode cX12_thingsBy 122 = .ok (.iaload, 1) := by decide +kernel
theorem dX12_thingsBy_123 : decode cX12_thingsBy 123 = .ok (.aload_n 0, 1) := by decide +kernel
theorem dX12_thingsBy_124 : decode cX12_thingsBy 124 = .ok (.getfield 43, 3) := by decide +kernel
theorem dX12_thingsBy_127 : decode cX12_thingsBy 127 = .ok (.iload 8, 2) := by decide +kernel
theorem dX12_thingsBy_129 : decode cX12_thingsBy 129 = .ok (.iconst 1, 1) := by decide +kernel
theorem dX12_thingsBy_130 : decode cX12_thingsBy 130 = .ok (.iadd, 1) := by decide +kernel
theorem dX12_thingsBy_131 : decode cX12_thingsBy 131 = .ok (.iaload, 1) := by decide +kernel
theorem dX12_thingsBy_132 : decode cX12_thingsBy 132 = .ok (.aload_n 0, 1) := by decide +kernel
theorem dX12_thingsBy_133 : decode cX12_thingsBy 133 = .ok (.getfield 43, 3) := by decide +kernel
theorem dX12_thingsBy_136 : decode cX12_thingsBy 136 = .ok (.iload 8, 2) := by decide +kernel
theorem dX12_thingsBy_138 : decode cX12_thingsBy 138 = .ok (.iconst 2, 1) := by decide +kernel
theorem dX12_thingsBy_139 : decode cX12_thingsBy 139 = .ok (.iadd, 1) := by decide +kernel
theorem dX12_thingsBy_140 : decode cX12_thingsBy 140 = .ok (.iaload, 1) := by decide +kernel
theorem dX12_thingsBy_141 : decode cX12_thingsBy 141 = .ok (.invokevirtual 274, 3) := by decide +kernel
theorem dX12_thingsBy_144 : decode cX12_thingsBy 144 = .ok (.ifCond .lt 7, 3) := by decide +kernel
theorem dX12_thingsBy_147 : decode cX12_thingsBy 147 = .ok (.iconst 1, 1) := by decide +kernel
theorem dX12_thingsBy_148 : decode cX12_thingsBy 148 = .ok (.goto 4, 3) := by decide +kernel
theorem dX12_thingsBy_151 : decode cX12_thingsBy 151 = .ok (.iconst 0, 1) := by decide +kernel
theorem dX12_thingsBy_152 : decode cX12_thingsBy 152 = .ok (.iadd, 1) := by decide +kernel
theorem dX12_thingsBy_153 : decode cX12_thingsBy 153 = .ok (.istore 5, 2) := by decide +kernel
theorem dX12_thingsBy_155 : decode cX12_thingsBy 155 = .ok (.iinc 6 1, 3) := by decide +kernel
theorem dX12_thingsBy_158 : decode cX12_thingsBy 158 = .ok (.goto (-95), 3) := by decide +kernel
theorem dX12_thingsBy_161 : decode cX12_thingsBy 161 = .ok (.iload 5, 2) := by decide +kernel
theorem dX12_thingsBy_163 : decode cX12_thingsBy 163 = .ok (.ireturn, 1) := by decide +kernel
set_option maxRecDepth 100000 in
set_option maxHeartbeats 4000000 in
theorem kX12_thingsBy (l : Launch) (w : wT) (hw : yOk w 20) (σ : Hp) (a1 : Int32) (a2 : Int32) (a3 : Int32) (a4 : Int32) (K : Int32 → Hp → Prop) (hv : VX12_thingsBy K σ a1 a2 a3 a4) : yMet l w mcf 20 yX12_thingsBy cX12_thingsBy 9 (some .int) 5 [.ref (w.1 0), .int a1, .int a2, .int a3, .int a4] σ (yQi w mcf 20 K) := by
  unfold VX12_thingsBy at hv
  refine y_start (lv0 := [(0, .ref (w.1 0)), (1, .int a1), (2, .int a2), (3, .int a3), (4, .int a4)]) (by decide +kernel) (own := RX12) rfl hw (Nat.le_of_ble_eq_true rfl) rfl (fun p e s m below meth c A E => ?_)
  have hL63 : ∀ (n63 : Nat) (σ : Hp) (l1 : Int32) (l3 : Int32) (l4 : Int32) (l5 : Int32) (l6 : Int32), VX12_thingsBy_L63 K n63 σ l1 l3 l4 l5 l6 → YY p l e (yRm 5) s m [.ref (w.1 0), .int a1, .int a2, .int a3, .int a4].toArray below meth c w mcf 20 A (MQ below (yQi w mcf 20 K A) [.ref (w.1 0), .int a1, .int a2, .int a3, .int a4].toArray s 0 0 A) 9 σ 63 [(0, .ref (w.1 0)), (1, .int l1), (3, .int l3), (4, .int l4), (5, .int l5), (6, .int l6)] [] := by
    intro n63
    induction n63 with
    | zero => exact fun _ _ _ _ _ _ hv => (by unfold VX12_thingsBy_L63 at hv; exact hv.elim)
    | succ n63 ih63 =>
      intro σ l1 l3 l4 l5 l6 hv
      unfold VX12_thingsBy_L63 at hv
      refine y_iload E dX12_thingsBy_63 5 rfl ?_
      refine y_iload E dX12_thingsBy_65 3 rfl ?_
      refine y_icmp_ge (tgt := 161) E dX12_thingsBy_67 (by decide) (fun c12 => ?_) (fun c12 => ?_)
      · replace hv := ite_t hv c12
        refine y_iload E dX12_thingsBy_161 4 rfl ?_
        exact y_iret E dX12_thingsBy_163 hv
      · replace hv := ite_f hv c12
        refine y_iload_n E dX12_thingsBy_70 2 rfl ?_
        refine y_iconst (v := 3) E dX12_thingsBy_71 (by decide) ?_
        refine y_iload E dX12_thingsBy_72 5 rfl ?_
        refine y_imul E dX12_thingsBy_74 ?_
        refine y_iadd E dX12_thingsBy_75 ?_
        refine y_nmi (fun x13 hx13 => ?_)
        replace hv := hv x13 hx13
        refine y_istore (lv' := [(7, .int x13), (0, .ref (w.1 0)), (1, .int l1), (3, .int l3), (4, .int l4), (5, .int l5), (6, .int l6)]) E dX12_thingsBy_76 (by decide) rfl ?_
        refine y_iload_n E dX12_thingsBy_78 3 rfl ?_
        refine y_if_lt (tgt := 101) E dX12_thingsBy_79 (by decide) (fun c14 => ?_) (fun c14 => ?_)
        · replace hv := ite_t hv c14
          refine y_bipush (v := (-12)) E dX12_thingsBy_101 (by decide) ?_
          exact y_iret E dX12_thingsBy_103 hv
        · replace hv := ite_f hv c14
          refine y_iload E dX12_thingsBy_82 0 rfl ?_
          refine y_iload_n E dX12_thingsBy_84 3 rfl ?_
          refine y_icmp_lt (tgt := 101) E dX12_thingsBy_85 (by decide) (fun c15 => ?_) (fun c15 => ?_)
          · replace hv := ite_t hv c15
            refine y_bipush (v := (-12)) E dX12_thingsBy_101 (by decide) ?_
            exact y_iret E dX12_thingsBy_103 hv
          · replace hv := ite_f hv c15
            refine y_iload E dX12_thingsBy_88 0 rfl ?_
            refine y_aload_n E dX12_thingsBy_90 1 rfl ?_
            refine gf_X12_18 E (by decide) (by decide) wm_653 dX12_thingsBy_91 ?_
            refine y_iload_n E dX12_thingsBy_94 2 rfl ?_
            obtain ⟨hi, hv⟩ := hv
            refine y_iald E (Nat.lt_of_lt_of_le (show 11 < 12 by decide) (by decide)) (mc_m_sheetSize (by decide) (by decide)) hi dX12_thingsBy_95 ?_
            refine y_iconst (v := 3) E dX12_thingsBy_96 (by decide) ?_
            refine y_isub E dX12_thingsBy_97 ?_
            refine y_icmp_le (tgt := 104) E dX12_thingsBy_98 (by decide) (fun c16 => ?_) (fun c16 => ?_)
            · replace hv := ite_t hv c16
              refine y_bipush (v := 40) E dX12_thingsBy_104 (by decide) ?_
              refine y_iload_n E dX12_thingsBy_106 2 rfl ?_
              refine y_imul E dX12_thingsBy_107 ?_
              refine y_iload E dX12_thingsBy_108 0 rfl ?_
              refine y_iadd E dX12_thingsBy_110 ?_
              refine y_nmi (fun x17 hx17 => ?_)
              replace hv := hv x17 hx17
              refine y_istore (lv' := [(8, .int x17), (7, .int x13), (0, .ref (w.1 0)), (1, .int l1), (3, .int l3), (4, .int l4), (5, .int l5), (6, .int l6)]) E dX12_thingsBy_111 (by decide) rfl ?_
              refine y_iload E dX12_thingsBy_113 6 rfl ?_
              refine y_aload_n E dX12_thingsBy_115 2 rfl ?_
              refine y_aload_n E dX12_thingsBy_116 2 rfl ?_
              refine gf_X12_19 E (by decide) (by decide) wm_658 dX12_thingsBy_117 ?_
              refine y_iload E dX12_thingsBy_120 0 rfl ?_
              obtain ⟨hi, hv⟩ := hv
              refine y_iald E (Nat.lt_of_lt_of_le (show 12 < 13 by decide) (by decide)) (mc_m_cells (by decide) (by decide)) hi dX12_thingsBy_122 ?_
              refine y_aload_n E dX12_thingsBy_123 2 rfl ?_
              refine gf_X12_19 E (by decide) (by decide) wm_658 dX12_thingsBy_124 ?_
              refine y_iload E dX12_thingsBy_127 0 rfl ?_
              refine y_iconst (v := 1) E dX12_thingsBy_129 (by decide) ?_
              refine y_iadd E dX12_thingsBy_130 ?_
              obtain ⟨hi, hv⟩ := hv
              refine y_iald E (Nat.lt_of_lt_of_le (show 12 < 13 by decide) (by decide)) (mc_m_cells (by decide) (by decide)) hi dX12_thingsBy_131 ?_
              refine y_aload_n E dX12_thingsBy_132 2 rfl ?_
              refine gf_X12_19 E (by decide) (by decide) wm_658 dX12_thingsBy_133 ?_
              refine y_iload E dX12_thingsBy_136 0 rfl ?_
              refine y_iconst (v := 2) E dX12_thingsBy_138 (by decide) ?_
              refine y_iadd E dX12_thingsBy_139 ?_
              obtain ⟨hi, hv⟩ := hv
              refine y_iald E (Nat.lt_of_lt_of_le (show 12 < 13 by decide) (by decide)) (mc_m_cells (by decide) (by decide)) hi dX12_thingsBy_140 ?_
              refine y_calli E (y_runV E (rest := [.int l5]) (kX12_thing l w E.2.2.1 σ (σ 12 x17.toNatClampNeg) (σ 12 (x17 + 1).toNatClampNeg) (σ 12 (x17 + 2).toNatClampNeg) _ hv) (y_cwV 3 E.1.2.2.2.2 wm_681 wm_682 wm_683 wm_479 wm_684 (by decide +kernel) (yRm_le (by decide) (by decide))) (Nat.lt_of_lt_of_le (show 0 < 1 by decide) (by decide)) (mc_X12 (by decide) (by decide)) rfl rfl rfl (Nat.le_of_ble_eq_true rfl) dX12_thingsBy_141) (fun v18 u19 hk => ?_)
              clear hv
              have hv := hk
              clear hk
              refine y_if_lt (tgt := 151) E dX12_thingsBy_144 (by decide) (fun c20 => ?_) (fun c20 => ?_)
              · replace hv := ite_t hv c20
                refine y_iconst (v := 0) E dX12_thingsBy_151 (by decide) ?_
                refine y_iadd E dX12_thingsBy_152 ?_
                refine y_nmi (fun x21 hx21 => ?_)
                replace hv := hv x21 hx21
                refine y_istore (lv' := [(5, .int x21), (8, .int x17), (7, .int x13), (0, .ref (w.1 0)), (1, .int l1), (3, .int l3), (4, .int l4), (6, .int l6)]) E dX12_thingsBy_153 (by decide) rfl ?_
                obtain ⟨x22, hx22⟩ : ∃ z : Int32, z = l6 + 1 := ⟨_, rfl⟩
                replace hv := hv x22 hx22
                refine y_iinc (v := x22) (lv' := [(6, .int x22), (5, .int x21), (8, .int x17), (7, .int x13), (0, .ref (w.1 0)), (1, .int l1), (3, .int l3), (4, .int l4)]) E dX12_thingsBy_155 7 rfl (by rw [hx22]; rfl) (by decide) rfl ?_
                refine y_goto (tgt := 63) E dX12_thingsBy_158 (by decide) ?_
                refine y_lv (lv' := [(0, .ref (w.1 0)), (1, .int l1), (3, .int l3), (4, .int l4), (5, .int x21), (6, .int x22)]) [4, 5, 6, 7, 1, 0] rfl ?_
                exact ih63 u19 l1 l3 l4 x21 x22 hv
              · replace hv := ite_f hv c20
                refine y_iconst (v := 1) E dX12_thingsBy_147 (by decide) ?_
                refine y_goto (tgt := 152) E dX12_thingsBy_148 (by decide) ?_
                refine y_iadd E dX12_thingsBy_152 ?_
                refine y_nmi (fun x23 hx23 => ?_)
                replace hv := hv x23 hx23
                refine y_istore (lv' := [(5, .int x23), (8, .int x17), (7, .int x13), (0, .ref (w.1 0)), (1, .int l1), (3, .int l3), (4, .int l4), (6, .int l6)]) E dX12_thingsBy_153 (by decide) rfl ?_
                obtain ⟨x24, hx24⟩ : ∃ z : Int32, z = l6 + 1 := ⟨_, rfl⟩
                replace hv := hv x24 hx24
                refine y_iinc (v := x24) (lv' := [(6, .int x24), (5, .int x23), (8, .int x17), (7, .int x13), (0, .ref (w.1 0)), (1, .int l1), (3, .int l3), (4, .int l4)]) E dX12_thingsBy_155 7 rfl (by rw [hx24]; rfl) (by decide) rfl ?_
                refine y_goto (tgt := 63) E dX12_thingsBy_158 (by decide) ?_
                refine y_lv (lv' := [(0, .ref (w.1 0)), (1, .int l1), (3, .int l3), (4, .int l4), (5, .int x23), (6, .int x24)]) [4, 5, 6, 7, 1, 0] rfl ?_
                exact ih63 u19 l1 l3 l4 x23 x24 hv
            · replace hv := ite_f hv c16
              refine y_bipush (v := (-12)) E dX12_thingsBy_101 (by decide) ?_
              exact y_iret E dX12_thingsBy_103 hv
  refine y_iload_n E dX12_thingsBy_0 1 rfl ?_
  refine y_iconst (v := 0) E dX12_thingsBy_1 (by decide) ?_
  refine y_iconst (v := 3) E dX12_thingsBy_2 (by decide) ?_
  refine y_calli E (y_runS E (rest := []) (kX12_in l w E.2.2.1 σ a1 0 3 _ hv) (y_cwS 3 E.1.2.2.2.2 wm_477 wm_478 wm_479 wm_480 (by decide +kernel) (yRm_le (by decide) (by decide))) rfl rfl (Nat.le_of_ble_eq_true rfl) dX12_thingsBy_3) (fun v1 u2 hk => ?_)
  clear hv
  have hv := hk
  clear hk
  refine y_if_eq (tgt := 28) E dX12_thingsBy_6 (by decide) (fun c3 => ?_) (fun c3 => ?_)
  · replace hv := ite_t hv c3
    refine y_bipush (v := (-2)) E dX12_thingsBy_28 (by decide) ?_
    exact y_iret E dX12_thingsBy_30 hv
  · replace hv := ite_f hv c3
    refine y_iload_n E dX12_thingsBy_9 2 rfl ?_
    refine y_iconst (v := 0) E dX12_thingsBy_10 (by decide) ?_
    refine y_iconst (v := 2) E dX12_thingsBy_11 (by decide) ?_
    refine y_calli E (y_runS E (rest := []) (kX12_in l w E.2.2.1 u2 a2 0 2 _ hv) (y_cwS 3 E.1.2.2.2.2 wm_477 wm_478 wm_479 wm_480 (by decide +kernel) (yRm_le (by decide) (by decide))) rfl rfl (Nat.le_of_ble_eq_true rfl) dX12_thingsBy_12) (fun v4 u5 hk => ?_)
    clear hv
    have hv := hk
    clear hk
    refine y_if_eq (tgt := 28) E dX12_thingsBy_15 (by decide) (fun c6 => ?_) (fun c6 => ?_)
    · replace hv := ite_t hv c6
      refine y_bipush (v := (-2)) E dX12_thingsBy_28 (by decide) ?_
      exact y_iret E dX12_thingsBy_30 hv
    · replace hv := ite_f hv c6
      refine y_iload E dX12_thingsBy_18 4 rfl ?_
      refine y_iconst (v := 0) E dX12_thingsBy_20 (by decide) ?_
      refine y_iconst (v := 5) E dX12_thingsBy_21 (by decide) ?_
      refine y_calli E (y_runS E (rest := []) (kX12_in l w E.2.2.1 u5 a4 0 5 _ hv) (y_cwS 3 E.1.2.2.2.2 wm_477 wm_478 wm_479 wm_480 (by decide +kernel) (yRm_le (by decide) (by decide))) rfl rfl (Nat.le_of_ble_eq_true rfl) dX12_thingsBy_22) (fun v7 u8 hk => ?_)
      clear hv
      have hv := hk
      clear hk
      refine y_if_ne (tgt := 31) E dX12_thingsBy_25 (by decide) (fun c9 => ?_) (fun c9 => ?_)
      · replace hv := ite_f hv c9
        refine y_aload_n E dX12_thingsBy_31 0 rfl ?_
        refine gf_X12_17 E (by decide) (by decide) wm_652 dX12_thingsBy_32 ?_
        refine y_iload_n E dX12_thingsBy_35 1 rfl ?_
        obtain ⟨hi, hv⟩ := hv
        refine y_iald E (Nat.lt_of_lt_of_le (show 10 < 11 by decide) (by decide)) (mc_m_sheetSort (by decide) (by decide)) hi dX12_thingsBy_36 ?_
        refine y_iconst (v := (-1)) E dX12_thingsBy_37 (by decide) ?_
        refine y_icmp_ne (tgt := 44) E dX12_thingsBy_38 (by decide) (fun c10 => ?_) (fun c10 => ?_)
        · replace hv := ite_f hv c10
          refine y_aload_n E dX12_thingsBy_44 0 rfl ?_
          refine gf_X12_17 E (by decide) (by decide) wm_652 dX12_thingsBy_45 ?_
          refine y_iload_n E dX12_thingsBy_48 1 rfl ?_
          obtain ⟨hi, hv⟩ := hv
          refine y_iald E (Nat.lt_of_lt_of_le (show 10 < 11 by decide) (by decide)) (mc_m_sheetSort (by decide) (by decide)) hi dX12_thingsBy_49 ?_
          refine y_iload_n E dX12_thingsBy_50 2 rfl ?_
          refine y_icmp_eq (tgt := 57) E dX12_thingsBy_51 (by decide) (fun c11 => ?_) (fun c11 => ?_)
          · replace hv := ite_t hv c11
            refine y_iconst (v := 0) E dX12_thingsBy_57 (by decide) ?_
            refine y_istore (lv' := [(5, .int 0), (0, .ref (w.1 0)), (1, .int a1), (2, .int a2), (3, .int a3), (4, .int a4)]) E dX12_thingsBy_58 (by decide) rfl ?_
            refine y_iconst (v := 0) E dX12_thingsBy_60 (by decide) ?_
            refine y_istore (lv' := [(6, .int 0), (5, .int 0), (0, .ref (w.1 0)), (1, .int a1), (2, .int a2), (3, .int a3), (4, .int a4)]) E dX12_thingsBy_61 (by decide) rfl ?_
            refine y_lv (lv' := [(0, .ref (w.1 0)), (1, .int a1), (3, .int a3), (4, .int a4), (5, .int 0), (6, .int 0)]) [2, 3, 5, 6, 1, 0] rfl ?_
            obtain ⟨n0, hv⟩ := hv
            exact hL63 n0 u8 a1 a3 a4 0 0 hv
          · replace hv := ite_f hv c11
            refine y_bipush (v := (-13)) E dX12_thingsBy_54 (by decide) ?_
            exact y_iret E dX12_thingsBy_56 hv
        · replace hv := ite_t hv c10
          refine y_bipush (v := (-11)) E dX12_thingsBy_41 (by decide) ?_
          exact y_iret E dX12_thingsBy_43 hv
      · replace hv := ite_t hv c9
        refine y_bipush (v := (-2)) E dX12_thingsBy_28 (by decide) ?_
        exact y_iret E dX12_thingsBy_30 hv
theorem dX12_isUnder_0 : decode cX12_isUnder 0 = .ok (.iload_n 1, 1) := by decide +kernel
theorem dX12_isUnder_1 : decode cX12_isUnder 1 = .ok (.ifCond .eq 28, 3) := by decide +kernel
theorem dX12_isUnder_4 : decode cX12_isUnder 4 = .ok (.iload_n 0, 1) := by decide +kernel
theorem dX12_isUnder_5 : decode cX12_isUnder 5 = .ok (.iload_n 1, 1) := by decide +kernel
theorem dX12_isUnder_6 : decode cX12_isUnder 6 = .ok (.if_icmp .eq 23, 3) := by decide +kernel
theorem dX12_isUnder_9 : decode cX12_isUnder 9 = .ok (.iload_n 1, 1) := by decide +kernel
theorem dX12_isUnder_10 : decode cX12_isUnder 10 = .ok (.iconst 1, 1) := by decide +kernel
theorem dX12_isUnder_11 : decode cX12_isUnder 11 = .ok (.if_icmp .ne 8, 3) := by decide +kernel
theorem dX12_isUnder_14 : decode cX12_isUnder 14 = .ok (.iload_n 0, 1) := by decide +kernel
theorem dX12_isUnder_15 : decode cX12_isUnder 15 = .ok (.iconst 3, 1) := by decide +kernel
theorem dX12_isUnder_16 : decode cX12_isUnder 16 = .ok (.if_icmp .eq 13, 3) := by decide +kernel
theorem dX12_isUnder_19 : decode cX12_isUnder 19 = .ok (.iload_n 1, 1) := by decide +kernel
theorem dX12_isUnder_20 : decode cX12_isUnder 20 = .ok (.iconst 2, 1) := by decide +kernel
theorem dX12_isUnder_21 : decode cX12_isUnder 21 = .ok (.if_icmp .ne 12, 3) := by decide +kernel
theorem dX12_isUnder_24 : decode cX12_isUnder 24 = .ok (.iload_n 0, 1) := by decide +kernel
theorem dX12_isUnder_25 : decode cX12_isUnder 25 = .ok (.iconst 4, 1) := by decide +kernel
theorem dX12_isUnder_26 : decode cX12_isUnder 26 = .ok (.if_icmp .ne 7, 3) := by decide +kernel
theorem dX12_isUnder_29 : decode cX12_isUnder 29 = .ok (.iconst 1, 1) := by decide +kernel
theorem dX12_isUnder_30 : decode cX12_isUnder 30 = .ok (.goto 4, 3) := by decide +kernel
theorem dX12_isUnder_33 : decode cX12_isUnder 33 = .ok (.iconst 0, 1) := by decide +kernel
theorem dX12_isUnder_34 : decode cX12_isUnder 34 = .ok (.ireturn, 1) := by decide +kernel
set_option maxRecDepth 100000 in
set_option maxHeartbeats 4000000 in
theorem kX12_isUnder (l : Launch) (w : wT) (hw : yOk w 20) (σ : Hp) (a1 : Int32) (a2 : Int32) (K : Int32 → Hp → Prop) (hv : VX12_isUnder K σ a1 a2) : yMet l w mcf 20 yX12_isUnder cX12_isUnder 2 (some .boolean) 1 [.int a1, .int a2] σ (yQi w mcf 20 K) := by
  unfold VX12_isUnder at hv
  refine y_start (lv0 := [(0, .int a1), (1, .int a2)]) (by decide +kernel) (own := RX12) rfl hw (Nat.le_of_ble_eq_true rfl) rfl (fun p e s m below meth c A E => ?_)
  have hb19 : ∀ (σ : Hp) (l0 : Int32) (l1 : Int32), VX12_isUnder_b19 K σ l0 l1 → YY p l e (yRm 1) s m [.int a1, .int a2].toArray below meth c w mcf 20 A (MQ below (yQi w mcf 20 K A) [.int a1, .int a2].toArray s 0 0 A) 2 σ 19 [(0, .int l0), (1, .int l1)] [] := by
    intro σ l0 l1 hv
    unfold VX12_isUnder_b19 at hv
    refine y_iload_n E dX12_isUnder_19 1 rfl ?_
    refine y_iconst (v := 2) E dX12_isUnder_20 (by decide) ?_
    refine y_icmp_ne (tgt := 33) E dX12_isUnder_21 (by decide) (fun c5 => ?_) (fun c5 => ?_)
    · replace hv := ite_f hv c5
      refine y_iconst (v := 0) E dX12_isUnder_33 (by decide) ?_
      exact y_nret E dX12_isUnder_34 (by decide) hv
    · replace hv := ite_t hv c5
      refine y_iload_n E dX12_isUnder_24 0 rfl ?_
      refine y_iconst (v := 4) E dX12_isUnder_25 (by decide) ?_
      refine y_icmp_ne (tgt := 33) E dX12_isUnder_26 (by decide) (fun c6 => ?_) (fun c6 => ?_)
      · replace hv := ite_f hv c6
        refine y_iconst (v := 0) E dX12_isUnder_33 (by decide) ?_
        exact y_nret E dX12_isUnder_34 (by decide) hv
      · replace hv := ite_t hv c6
        refine y_iconst (v := 1) E dX12_isUnder_29 (by decide) ?_
        refine y_goto (tgt := 34) E dX12_isUnder_30 (by decide) ?_
        exact y_nret E dX12_isUnder_34 (by decide) hv
  refine y_iload_n E dX12_isUnder_0 1 rfl ?_
  refine y_if_eq (tgt := 29) E dX12_isUnder_1 (by decide) (fun c1 => ?_) (fun c1 => ?_)
  · replace hv := ite_t hv c1
    refine y_iconst (v := 1) E dX12_isUnder_29 (by decide) ?_
    refine y_goto (tgt := 34) E dX12_isUnder_30 (by decide) ?_
    exact y_nret E dX12_isUnder_34 (by decide) hv
  · replace hv := ite_f hv c1
    refine y_iload_n E dX12_isUnder_4 0 rfl ?_
    refine y_iload_n E dX12_isUnder_5 1 rfl ?_
    refine y_icmp_eq (tgt := 29) E dX12_isUnder_6 (by decide) (fun c2 => ?_) (fun c2 => ?_)
    · replace hv := ite_t hv c2
      refine y_iconst (v := 1) E dX12_isUnder_29 (by decide) ?_
      refine y_goto (tgt := 34) E dX12_isUnder_30 (by decide) ?_
      exact y_nret E dX12_isUnder_34 (by decide) hv
    · replace hv := ite_f hv c2
      refine y_iload_n E dX12_isUnder_9 1 rfl ?_
      refine y_iconst (v := 1) E dX12_isUnder_10 (by decide) ?_
      refine y_icmp_ne (tgt := 19) E dX12_isUnder_11 (by decide) (fun c3 => ?_) (fun c3 => ?_)
      · replace hv := ite_f hv c3
        exact hb19 σ a1 a2 hv
      · replace hv := ite_t hv c3
        refine y_iload_n E dX12_isUnder_14 0 rfl ?_
        refine y_iconst (v := 3) E dX12_isUnder_15 (by decide) ?_
        refine y_icmp_eq (tgt := 29) E dX12_isUnder_16 (by decide) (fun c4 => ?_) (fun c4 => ?_)
        · replace hv := ite_t hv c4
          refine y_iconst (v := 1) E dX12_isUnder_29 (by decide) ?_
          refine y_goto (tgt := 34) E dX12_isUnder_30 (by decide) ?_
          exact y_nret E dX12_isUnder_34 (by decide) hv
        · replace hv := ite_f hv c4
          exact hb19 σ a1 a2 hv
theorem dX12_taken_0 : decode cX12_taken 0 = .ok (.iload_n 2, 1) := by decide +kernel
theorem dX12_taken_1 : decode cX12_taken 1 = .ok (.iconst 0, 1) := by decide +kernel
theorem dX12_taken_2 : decode cX12_taken 2 = .ok (.bipush 6, 2) := by decide +kernel
theorem dX12_taken_4 : decode cX12_taken 4 = .ok (.invokestatic 75, 3) := by decide +kernel
theorem dX12_taken_7 : decode cX12_taken 7 = .ok (.ifCond .ne 6, 3) := by decide +kernel
theorem dX12_taken_10 : decode cX12_taken 10 = .ok (.bipush (-2), 2) := by decide +kernel
theorem dX12_taken_12 : decode cX12_taken 12 = .ok (.ireturn, 1) := by decide +kernel
theorem dX12_taken_13 : decode cX12_taken 13 = .ok (.iload_n 1, 1) := by decide +kernel
theorem dX12_taken_14 : decode cX12_taken 14 = .ok (.iconst 0, 1) := by decide +kernel
theorem dX12_taken_15 : decode cX12_taken 15 = .ok (.bipush 34, 2) := by decide +kernel
theorem dX12_taken_17 : decode cX12_taken 17 = .ok (.invokestatic 75, 3) := by decide +kernel
theorem dX12_taken_20 : decode cX12_taken 20 = .ok (.ifCond .ne 6, 3) := by decide +kernel
theorem dX12_taken_23 : decode cX12_taken 23 = .ok (.bipush (-12), 2) := by decide +kernel
theorem dX12_taken_25 : decode cX12_taken 25 = .ok (.ireturn, 1) := by decide +kernel
theorem dX12_taken_26 : decode cX12_taken 26 = .ok (.iload_n 1, 1) := by decide +kernel
theorem dX12_taken_27 : decode cX12_taken 27 = .ok (.bipush 30, 2) := by decide +kernel
theorem dX12_taken_29 : decode cX12_taken 29 = .ok (.if_icmp .ge 52, 3) := by decide +kernel
theorem dX12_taken_32 : decode cX12_taken 32 = .ok (.aload_n 0, 1) := by decide +kernel
theorem dX12_taken_33 : decode cX12_taken 33 = .ok (.iconst 1, 1) := by decide +kernel
theorem dX12_taken_34 : decode cX12_taken 34 = .ok (.iload_n 1, 1) := by decide +kernel
theorem dX12_taken_35 : decode cX12_taken 35 = .ok (.invokevirtual 83, 3) := by decide +kernel
theorem dX12_taken_38 : decode cX12_taken 38 = .ok (.ifCond .ne 17, 3) := by decide +kernel
theorem dX12_taken_41 : decode cX12_taken 41 = .ok (.aload_n 0, 1) := by decide +kernel
theorem dX12_taken_42 : decode cX12_taken 42 = .ok (.iconst 2, 1) := by decide +kernel
theorem dX12_taken_43 : decode cX12_taken 43 = .ok (.iload_n 1, 1) := by decide +kernel
theorem dX12_taken_44 : decode cX12_taken 44 = .ok (.invokevirtual 83, 3) := by decide +kernel
theorem dX12_taken_47 : decode cX12_taken 47 = .ok (.ifCond .ne 8, 3) := by decide +kernel
theorem dX12_taken_50 : decode cX12_taken 50 = .ok (.bipush (-11), 2) := by decide +kernel
theorem dX12_taken_52 : decode cX12_taken 52 = .ok (.goto 28, 3) := by decide +kernel
theorem dX12_taken_55 : decode cX12_taken 55 = .ok (.iload_n 2, 1) := by decide +kernel
theorem dX12_taken_56 : decode cX12_taken 56 = .ok (.bipush 6, 2) := by decide +kernel
theorem dX12_taken_58 : decode cX12_taken 58 = .ok (.if_icmp .eq 8, 3) := by decide +kernel
theorem dX12_taken_61 : decode cX12_taken 61 = .ok (.bipush (-13), 2) := by decide +kernel
theorem dX12_taken_63 : decode cX12_taken 63 = .ok (.goto 17, 3) := by decide +kernel
theorem dX12_taken_66 : decode cX12_taken 66 = .ok (.aload_n 0, 1) := by decide +kernel
theorem dX12_taken_67 : decode cX12_taken 67 = .ok (.iconst 1, 1) := by decide +kernel
theorem dX12_taken_68 : decode cX12_taken 68 = .ok (.iload_n 1, 1) := by decide +kernel
theorem dX12_taken_69 : decode cX12_taken 69 = .ok (.invokevirtual 83, 3) := by decide +kernel
theorem dX12_taken_72 : decode cX12_taken 72 = .ok (.ifCond .eq 7, 3) := by decide +kernel
theorem dX12_taken_75 : decode cX12_taken 75 = .ok (.iconst 1, 1) := by decide +kernel
theorem dX12_taken_76 : decode cX12_taken 76 = .ok (.goto 4, 3) := by decide +kernel
theorem dX12_taken_79 : decode cX12_taken 79 = .ok (.iconst 0, 1) := by decide +kernel
theorem dX12_taken_80 : decode cX12_taken 80 = .ok (.ireturn, 1) := by decide +kernel
theorem dX12_taken_81 : decode cX12_taken 81 = .ok (.iload_n 1, 1) := by decide +kernel
theorem dX12_taken_82 : decode cX12_taken 82 = .ok (.bipush 30, 2) := by decide +kernel
theorem dX12_taken_84 : decode cX12_taken 84 = .ok (.isub, 1) := by decide +kernel
theorem dX12_taken_85 : decode cX12_taken 85 = .ok (.aload_n 0, 1) := by decide +kernel
theorem dX12_taken_86 : decode cX12_taken 86 = .ok (.getfield 87, 3) := by decide +kernel
theorem dX12_taken_89 : decode cX12_taken 89 = .ok (.if_icmp .lt 8, 3) := by decide +kernel
theorem dX12_taken_92 : decode cX12_taken 92 = .ok (.bipush (-11), 2) := by decide +kernel
theorem dX12_taken_94 : decode cX12_taken 94 = .ok (.goto 34, 3) := by decide +kernel
theorem dX12_taken_97 : decode cX12_taken 97 = .ok (.iload_n 2, 1) := by decide +kernel
theorem dX12_taken_98 : decode cX12_taken 98 = .ok (.bipush 6, 2) := by decide +kernel
theorem dX12_taken_100 : decode cX12_taken 100 = .ok (.if_icmp .ge 26, 3) := by decide +kernel
theorem dX12_taken_103 : decode cX12_taken 103 = .ok (.aload_n 0, 1) := by decide +kernel
theorem dX12_taken_104 : decode cX12_taken 104 = .ok (.getfield 13, 3) := by decide +kernel
theorem dX12_taken_107 : decode cX12_taken 107 = .ok (.iload_n 1, 1) := by decide +kernel
theorem dX12_taken_108 : decode cX12_taken 108 = .ok (.bipush 30, 2) := by decide +kernel
theorem dX12_taken_110 : decode cX12_taken 110 = .ok (.isub, 1) := by decide +kernel
theorem dX12_taken_111 : decode cX12_taken 111 = .ok (.iaload, 1) := by decide +kernel
theorem dX12_taken_112 : decode cX12_taken 112 = .ok (.iload_n 2, 1) := by decide +kernel
theorem dX12_taken_113 : decode cX12_taken 113 = .ok (.invokestatic 277, 3) := by decide +kernel
theorem dX12_taken_116 : decode cX12_taken 116 = .ok (.ifCond .eq 10, 3) := by decide +kernel
theorem dX12_taken_119 : decode cX12_taken 119 = .ok (.iload_n 1, 1) := by decide +kernel
theorem dX12_taken_120 : decode cX12_taken 120 = .ok (.bipush 30, 2) := by decide +kernel
theorem dX12_taken_122 : decode cX12_taken 122 = .ok (.isub, 1) := by decide +kernel
theorem dX12_taken_123 : decode cX12_taken 123 = .ok (.goto 5, 3) := by decide +kernel
theorem dX12_taken_126 : decode cX12_taken 126 = .ok (.bipush (-13), 2) := by decide +kernel
theorem dX12_taken_128 : decode cX12_taken 128 = .ok (.ireturn, 1) := by decide +kernel
set_option maxRecDepth 100000 in
set_option maxHeartbeats 4000000 in
theorem kX12_taken (l : Launch) (w : wT) (hw : yOk w 20) (σ : Hp) (a1 : Int32) (a2 : Int32) (K : Int32 → Hp → Prop) (hv : VX12_taken K σ a1 a2) : yMet l w mcf 20 yX12_taken cX12_taken 3 (some .int) 2 [.ref (w.1 0), .int a1, .int a2] σ (yQi w mcf 20 K) := by
  unfold VX12_taken at hv
  refine y_start (lv0 := [(0, .ref (w.1 0)), (1, .int a1), (2, .int a2)]) (by decide +kernel) (own := RX12) rfl hw (Nat.le_of_ble_eq_true rfl) rfl (fun p e s m below meth c A E => ?_)
  have hb55 : ∀ (σ : Hp) (l1 : Int32) (l2 : Int32), VX12_taken_b55 K σ l1 l2 → YY p l e (yRm 2) s m [.ref (w.1 0), .int a1, .int a2].toArray below meth c w mcf 20 A (MQ below (yQi w mcf 20 K A) [.ref (w.1 0), .int a1, .int a2].toArray s 0 0 A) 3 σ 55 [(0, .ref (w.1 0)), (1, .int l1), (2, .int l2)] [] := by
    intro σ l1 l2 hv
    unfold VX12_taken_b55 at hv
    refine y_iload_n E dX12_taken_55 2 rfl ?_
    refine y_bipush (v := 6) E dX12_taken_56 (by decide) ?_
    refine y_icmp_eq (tgt := 66) E dX12_taken_58 (by decide) (fun c19 => ?_) (fun c19 => ?_)
    · replace hv := ite_t hv c19
      refine y_aload_n E dX12_taken_66 0 rfl ?_
      refine y_iconst (v := 1) E dX12_taken_67 (by decide) ?_
      refine y_iload_n E dX12_taken_68 1 rfl ?_
      refine y_calli E (y_runV E (rest := []) (kX12_has l w E.2.2.1 σ 1 l1 _ hv) (y_cwV 2 E.1.2.2.2.2 wm_483 wm_484 wm_485 wm_479 wm_486 (by decide +kernel) (yRm_le (by decide) (by decide))) (Nat.lt_of_lt_of_le (show 0 < 1 by decide) (by decide)) (mc_X12 (by decide) (by decide)) rfl rfl rfl (Nat.le_of_ble_eq_true rfl) dX12_taken_69) (fun v20 u21 hk => ?_)
      clear hv
      have hv := hk
      clear hk
      refine y_if_eq (tgt := 79) E dX12_taken_72 (by decide) (fun c22 => ?_) (fun c22 => ?_)
      · replace hv := ite_t hv c22
        refine y_iconst (v := 0) E dX12_taken_79 (by decide) ?_
        exact y_iret E dX12_taken_80 hv
      · replace hv := ite_f hv c22
        refine y_iconst (v := 1) E dX12_taken_75 (by decide) ?_
        refine y_goto (tgt := 80) E dX12_taken_76 (by decide) ?_
        exact y_iret E dX12_taken_80 hv
    · replace hv := ite_f hv c19
      refine y_bipush (v := (-13)) E dX12_taken_61 (by decide) ?_
      refine y_goto (tgt := 80) E dX12_taken_63 (by decide) ?_
      exact y_iret E dX12_taken_80 hv
  refine y_iload_n E dX12_taken_0 2 rfl ?_
  refine y_iconst (v := 0) E dX12_taken_1 (by decide) ?_
  refine y_bipush (v := 6) E dX12_taken_2 (by decide) ?_
  refine y_calli E (y_runS E (rest := []) (kX12_in l w E.2.2.1 σ a2 0 6 _ hv) (y_cwS 3 E.1.2.2.2.2 wm_477 wm_478 wm_479 wm_480 (by decide +kernel) (yRm_le (by decide) (by decide))) rfl rfl (Nat.le_of_ble_eq_true rfl) dX12_taken_4) (fun v1 u2 hk => ?_)
  clear hv
  have hv := hk
  clear hk
  refine y_if_ne (tgt := 13) E dX12_taken_7 (by decide) (fun c3 => ?_) (fun c3 => ?_)
  · replace hv := ite_f hv c3
    refine y_iload_n E dX12_taken_13 1 rfl ?_
    refine y_iconst (v := 0) E dX12_taken_14 (by decide) ?_
    refine y_bipush (v := 34) E dX12_taken_15 (by decide) ?_
    refine y_calli E (y_runS E (rest := []) (kX12_in l w E.2.2.1 u2 a1 0 34 _ hv) (y_cwS 3 E.1.2.2.2.2 wm_477 wm_478 wm_479 wm_480 (by decide +kernel) (yRm_le (by decide) (by decide))) rfl rfl (Nat.le_of_ble_eq_true rfl) dX12_taken_17) (fun v4 u5 hk => ?_)
    clear hv
    have hv := hk
    clear hk
    refine y_if_ne (tgt := 26) E dX12_taken_20 (by decide) (fun c6 => ?_) (fun c6 => ?_)
    · replace hv := ite_f hv c6
      refine y_iload_n E dX12_taken_26 1 rfl ?_
      refine y_bipush (v := 30) E dX12_taken_27 (by decide) ?_
      refine y_icmp_ge (tgt := 81) E dX12_taken_29 (by decide) (fun c7 => ?_) (fun c7 => ?_)
      · replace hv := ite_t hv c7
        refine y_iload_n E dX12_taken_81 1 rfl ?_
        refine y_bipush (v := 30) E dX12_taken_82 (by decide) ?_
        refine y_isub E dX12_taken_84 ?_
        refine y_aload_n E dX12_taken_85 0 rfl ?_
        refine gf_X12_2 E (by decide) (by decide) wm_489 dX12_taken_86 ?_
        refine y_icmp_lt (tgt := 97) E dX12_taken_89 (by decide) (fun c8 => ?_) (fun c8 => ?_)
        · replace hv := ite_t hv c8
          refine y_iload_n E dX12_taken_97 2 rfl ?_
          refine y_bipush (v := 6) E dX12_taken_98 (by decide) ?_
          refine y_icmp_ge (tgt := 126) E dX12_taken_100 (by decide) (fun c9 => ?_) (fun c9 => ?_)
          · replace hv := ite_t hv c9
            refine y_bipush (v := (-13)) E dX12_taken_126 (by decide) ?_
            exact y_iret E dX12_taken_128 hv
          · replace hv := ite_f hv c9
            refine y_aload_n E dX12_taken_103 0 rfl ?_
            refine gf_X12_3 E (by decide) (by decide) wm_571 dX12_taken_104 ?_
            refine y_iload_n E dX12_taken_107 1 rfl ?_
            refine y_bipush (v := 30) E dX12_taken_108 (by decide) ?_
            refine y_isub E dX12_taken_110 ?_
            obtain ⟨hi, hv⟩ := hv
            refine y_iald E (Nat.lt_of_lt_of_le (show 2 < 3 by decide) (by decide)) (mc_m_kind (by decide) (by decide)) hi dX12_taken_111 ?_
            refine y_iload_n E dX12_taken_112 2 rfl ?_
            refine y_calli E (y_runS E (rest := []) (kX12_isUnder l w E.2.2.1 u5 (u5 2 (a1 - 30).toNatClampNeg) a2 _ hv) (y_cwS 2 E.1.2.2.2.2 wm_685 wm_686 wm_479 wm_687 (by decide +kernel) (yRm_le (by decide) (by decide))) rfl rfl (Nat.le_of_ble_eq_true rfl) dX12_taken_113) (fun v10 u11 hk => ?_)
            clear hv
            have hv := hk
            clear hk
            refine y_if_eq (tgt := 126) E dX12_taken_116 (by decide) (fun c12 => ?_) (fun c12 => ?_)
            · replace hv := ite_t hv c12
              refine y_bipush (v := (-13)) E dX12_taken_126 (by decide) ?_
              exact y_iret E dX12_taken_128 hv
            · replace hv := ite_f hv c12
              refine y_iload_n E dX12_taken_119 1 rfl ?_
              refine y_bipush (v := 30) E dX12_taken_120 (by decide) ?_
              refine y_isub E dX12_taken_122 ?_
              refine y_goto (tgt := 128) E dX12_taken_123 (by decide) ?_
              exact y_iret E dX12_taken_128 hv
        · replace hv := ite_f hv c8
          refine y_bipush (v := (-11)) E dX12_taken_92 (by decide) ?_
          refine y_goto (tgt := 128) E dX12_taken_94 (by decide) ?_
          exact y_iret E dX12_taken_128 hv
      · replace hv := ite_f hv c7
        refine y_aload_n E dX12_taken_32 0 rfl ?_
        refine y_iconst (v := 1) E dX12_taken_33 (by decide) ?_
        refine y_iload_n E dX12_taken_34 1 rfl ?_
        refine y_calli E (y_runV E (rest := []) (kX12_has l w E.2.2.1 u5 1 a1 _ hv) (y_cwV 2 E.1.2.2.2.2 wm_483 wm_484 wm_485 wm_479 wm_486 (by decide +kernel) (yRm_le (by decide) (by decide))) (Nat.lt_of_lt_of_le (show 0 < 1 by decide) (by decide)) (mc_X12 (by decide) (by decide)) rfl rfl rfl (Nat.le_of_ble_eq_true rfl) dX12_taken_35) (fun v13 u14 hk => ?_)
        clear hv
        have hv := hk
        clear hk
        refine y_if_ne (tgt := 55) E dX12_taken_38 (by decide) (fun c15 => ?_) (fun c15 => ?_)
        · replace hv := ite_f hv c15
          exact hb55 u14 a1 a2 hv
        · replace hv := ite_t hv c15
          refine y_aload_n E dX12_taken_41 0 rfl ?_
          refine y_iconst (v := 2) E dX12_taken_42 (by decide) ?_
          refine y_iload_n E dX12_taken_43 1 rfl ?_
          refine y_calli E (y_runV E (rest := []) (kX12_has l w E.2.2.1 u14 2 a1 _ hv) (y_cwV 2 E.1.2.2.2.2 wm_483 wm_484 wm_485 wm_479 wm_486 (by decide +kernel) (yRm_le (by decide) (by decide))) (Nat.lt_of_lt_of_le (show 0 < 1 by decide) (by decide)) (mc_X12 (by decide) (by decide)) rfl rfl rfl (Nat.le_of_ble_eq_true rfl) dX12_taken_44) (fun v16 u17 hk => ?_)
          clear hv
          have hv := hk
          clear hk
          refine y_if_ne (tgt := 55) E dX12_taken_47 (by decide) (fun c18 => ?_) (fun c18 => ?_)
          · replace hv := ite_f hv c18
            exact hb55 u17 a1 a2 hv
          · replace hv := ite_t hv c18
            refine y_bipush (v := (-11)) E dX12_taken_50 (by decide) ?_
            refine y_goto (tgt := 80) E dX12_taken_52 (by decide) ?_
            exact y_iret E dX12_taken_80 hv
    · replace hv := ite_t hv c6
      refine y_bipush (v := (-12)) E dX12_taken_23 (by decide) ?_
      exact y_iret E dX12_taken_25 hv
  · replace hv := ite_t hv c3
    refine y_bipush (v := (-2)) E dX12_taken_10 (by decide) ?_
    exact y_iret E dX12_taken_12 hv
