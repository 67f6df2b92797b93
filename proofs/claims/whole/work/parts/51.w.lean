theorem dX11_has_0 : decode cX11_has 0 = .ok (.iload_n 0, 1) := by decide +kernel
theorem dX11_has_1 : decode cX11_has 1 = .ok (.iload_n 1, 1) := by decide +kernel
theorem dX11_has_2 : decode cX11_has 2 = .ok (.ishr, 1) := by decide +kernel
theorem dX11_has_3 : decode cX11_has 3 = .ok (.iconst 1, 1) := by decide +kernel
theorem dX11_has_4 : decode cX11_has 4 = .ok (.iand, 1) := by decide +kernel
theorem dX11_has_5 : decode cX11_has 5 = .ok (.iconst 1, 1) := by decide +kernel
theorem dX11_has_6 : decode cX11_has 6 = .ok (.if_icmp .ne 7, 3) := by decide +kernel
theorem dX11_has_9 : decode cX11_has 9 = .ok (.iconst 1, 1) := by decide +kernel
theorem dX11_has_10 : decode cX11_has 10 = .ok (.goto 4, 3) := by decide +kernel
theorem dX11_has_13 : decode cX11_has 13 = .ok (.iconst 0, 1) := by decide +kernel
theorem dX11_has_14 : decode cX11_has 14 = .ok (.ireturn, 1) := by decide +kernel
set_option maxRecDepth 100000 in
set_option maxHeartbeats 4000000 in
theorem kX11_has (l : Launch) (w : wT) (hw : yOk w 55) (σ : Hp) (a1 : Int32) (a2 : Int32) (K : Int32 → Hp → Prop) (hv : VX11_has K σ a1 a2) : yMet l w xcf 55 yX11_has cX11_has 2 (some .boolean) 1 [.int a1, .int a2] σ (yQi w xcf 55 K) := by
  unfold VX11_has at hv
  refine y_start (lv0 := [(0, .int a1), (1, .int a2)]) (by decide +kernel) (own := RX11) rfl hw (Nat.le_of_ble_eq_true rfl) rfl (fun p e s m below meth c A E => ?_)
  refine y_iload_n E dX11_has_0 0 rfl ?_
  refine y_iload_n E dX11_has_1 1 rfl ?_
  refine y_ishr E dX11_has_2 ?_
  refine y_iconst (v := 1) E dX11_has_3 (by decide) ?_
  refine y_iand E dX11_has_4 ?_
  refine y_iconst (v := 1) E dX11_has_5 (by decide) ?_
  refine y_icmp_ne (tgt := 13) E dX11_has_6 (by decide) (fun c1 => ?_) (fun c1 => ?_)
  · replace hv := ite_f hv c1
    refine y_iconst (v := 0) E dX11_has_13 (by decide) ?_
    exact y_nret E dX11_has_14 (by decide) hv
  · replace hv := ite_t hv c1
    refine y_iconst (v := 1) E dX11_has_9 (by decide) ?_
    refine y_goto (tgt := 14) E dX11_has_10 (by decide) ?_
    exact y_nret E dX11_has_14 (by decide) hv
theorem dX3_beyond_0 : decode cX3_beyond 0 = .ok (.iload_n 1, 1) := by decide +kernel
theorem dX3_beyond_1 : decode cX3_beyond 1 = .ok (.bipush 6, 2) := by decide +kernel
theorem dX3_beyond_3 : decode cX3_beyond 3 = .ok (.irem, 1) := by decide +kernel
theorem dX3_beyond_4 : decode cX3_beyond 4 = .ok (.iload_n 2, 1) := by decide +kernel
theorem dX3_beyond_5 : decode cX3_beyond 5 = .ok (.iconst 1, 1) := by decide +kernel
theorem dX3_beyond_6 : decode cX3_beyond 6 = .ok (.if_icmp .ne 7, 3) := by decide +kernel
theorem dX3_beyond_9 : decode cX3_beyond 9 = .ok (.iconst 1, 1) := by decide +kernel
theorem dX3_beyond_10 : decode cX3_beyond 10 = .ok (.goto 13, 3) := by decide +kernel
theorem dX3_beyond_13 : decode cX3_beyond 13 = .ok (.iload_n 2, 1) := by decide +kernel
theorem dX3_beyond_14 : decode cX3_beyond 14 = .ok (.iconst 3, 1) := by decide +kernel
theorem dX3_beyond_15 : decode cX3_beyond 15 = .ok (.if_icmp .ne 7, 3) := by decide +kernel
theorem dX3_beyond_18 : decode cX3_beyond 18 = .ok (.iconst (-1), 1) := by decide +kernel
theorem dX3_beyond_19 : decode cX3_beyond 19 = .ok (.goto 4, 3) := by decide +kernel
theorem dX3_beyond_22 : decode cX3_beyond 22 = .ok (.iconst 0, 1) := by decide +kernel
theorem dX3_beyond_23 : decode cX3_beyond 23 = .ok (.iadd, 1) := by decide +kernel
theorem dX3_beyond_24 : decode cX3_beyond 24 = .ok (.istore_n 3, 1) := by decide +kernel
theorem dX3_beyond_25 : decode cX3_beyond 25 = .ok (.iload_n 1, 1) := by decide +kernel
theorem dX3_beyond_26 : decode cX3_beyond 26 = .ok (.bipush 6, 2) := by decide +kernel
theorem dX3_beyond_28 : decode cX3_beyond 28 = .ok (.idiv, 1) := by decide +kernel
theorem dX3_beyond_29 : decode cX3_beyond 29 = .ok (.iload_n 2, 1) := by decide +kernel
theorem dX3_beyond_30 : decode cX3_beyond 30 = .ok (.iconst 2, 1) := by decide +kernel
theorem dX3_beyond_31 : decode cX3_beyond 31 = .ok (.if_icmp .ne 7, 3) := by decide +kernel
theorem dX3_beyond_34 : decode cX3_beyond 34 = .ok (.iconst 1, 1) := by decide +kernel
theorem dX3_beyond_35 : decode cX3_beyond 35 = .ok (.goto 12, 3) := by decide +kernel
theorem dX3_beyond_38 : decode cX3_beyond 38 = .ok (.iload_n 2, 1) := by decide +kernel
theorem dX3_beyond_39 : decode cX3_beyond 39 = .ok (.ifCond .ne 7, 3) := by decide +kernel
theorem dX3_beyond_42 : decode cX3_beyond 42 = .ok (.iconst (-1), 1) := by decide +kernel
theorem dX3_beyond_43 : decode cX3_beyond 43 = .ok (.goto 4, 3) := by decide +kernel
theorem dX3_beyond_46 : decode cX3_beyond 46 = .ok (.iconst 0, 1) := by decide +kernel
theorem dX3_beyond_47 : decode cX3_beyond 47 = .ok (.iadd, 1) := by decide +kernel
theorem dX3_beyond_48 : decode cX3_beyond 48 = .ok (.istore 4, 2) := by decide +kernel
theorem dX3_beyond_50 : decode cX3_beyond 50 = .ok (.iload_n 3, 1) := by decide +kernel
theorem dX3_beyond_51 : decode cX3_beyond 51 = .ok (.ifCond .lt 20, 3) := by decide +kernel
theorem dX3_beyond_54 : decode cX3_beyond 54 = .ok (.iload_n 3, 1) := by decide +kernel
theorem dX3_beyond_55 : decode cX3_beyond 55 = .ok (.bipush 6, 2) := by decide +kernel
theorem dX3_beyond_57 : decode cX3_beyond 57 = .ok (.if_icmp .ge 14, 3) := by decide +kernel
theorem dX3_beyond_60 : decode cX3_beyond 60 = .ok (.iload 4, 2) := by decide +kernel
theorem dX3_beyond_62 : decode cX3_beyond 62 = .ok (.ifCond .lt 9, 3) := by decide +kernel
theorem dX3_beyond_65 : decode cX3_beyond 65 = .ok (.iload 4, 2) := by decide +kernel
theorem dX3_beyond_67 : decode cX3_beyond 67 = .ok (.iconst 5, 1) := by decide +kernel
theorem dX3_beyond_68 : decode cX3_beyond 68 = .ok (.if_icmp .lt 5, 3) := by decide +kernel
theorem dX3_beyond_71 : decode cX3_beyond 71 = .ok (.iconst (-1), 1) := by decide +kernel
theorem dX3_beyond_72 : decode cX3_beyond 72 = .ok (.ireturn, 1) := by decide +kernel
theorem dX3_beyond_73 : decode cX3_beyond 73 = .ok (.bipush 6, 2) := by decide +kernel
theorem dX3_beyond_75 : decode cX3_beyond 75 = .ok (.iload 4, 2) := by decide +kernel
theorem dX3_beyond_77 : decode cX3_beyond 77 = .ok (.imul, 1) := by decide +kernel
theorem dX3_beyond_78 : decode cX3_beyond 78 = .ok (.iload_n 3, 1) := by decide +kernel
theorem dX3_beyond_79 : decode cX3_beyond 79 = .ok (.iadd, 1) := by decide +kernel
theorem dX3_beyond_80 : decode cX3_beyond 80 = .ok (.istore 5, 2) := by decide +kernel
theorem dX3_beyond_82 : decode cX3_beyond 82 = .ok (.aload_n 0, 1) := by decide +kernel
theorem dX3_beyond_83 : decode cX3_beyond 83 = .ok (.getfield 24, 3) := by decide +kernel
theorem dX3_beyond_86 : decode cX3_beyond 86 = .ok (.iload 5, 2) := by decide +kernel
theorem dX3_beyond_88 : decode cX3_beyond 88 = .ok (.invokestatic 49, 3) := by decide +kernel
theorem dX3_beyond_91 : decode cX3_beyond 91 = .ok (.ifCond .eq 7, 3) := by decide +kernel
theorem dX3_beyond_94 : decode cX3_beyond 94 = .ok (.iconst (-1), 1) := by decide +kernel
theorem dX3_beyond_95 : decode cX3_beyond 95 = .ok (.goto 5, 3) := by decide +kernel
theorem dX3_beyond_98 : decode cX3_beyond 98 = .ok (.iload 5, 2) := by decide +kernel
theorem dX3_beyond_100 : decode cX3_beyond 100 = .ok (.ireturn, 1) := by decide +kernel
set_option maxRecDepth 100000 in
set_option maxHeartbeats 4000000 in
theorem kX3_beyond (l : Launch) (w : wT) (hw : yOk w 55) (σ : Hp) (o : Nat) (a1 : Int32) (a2 : Int32) (K : Int32 → Hp → Prop) (hv : VX3_beyond K σ o a1 a2) : yMet l w xcf 55 yX3_beyond cX3_beyond 6 (some .int) 2 [.ref (w.1 o), .int a1, .int a2] σ (yQi w xcf 55 K) := by
  unfold VX3_beyond at hv
  refine y_start (lv0 := [(0, .ref (w.1 o)), (1, .int a1), (2, .int a2)]) (by decide +kernel) (own := RX3) rfl hw (Nat.le_of_ble_eq_true rfl) rfl (fun p e s m below meth c A E => ?_)
  obtain ⟨hgo, hv⟩ := hv
  have hb47 : ∀ (σ : Hp) (l3 : Int32) (s0 : Int32) (s1 : Int32), VX3_beyond_b47 K o σ l3 s0 s1 → YY p l e (yRm 2) s m [.ref (w.1 o), .int a1, .int a2].toArray below meth c w xcf 55 A (MQ below (yQi w xcf 55 K A) [.ref (w.1 o), .int a1, .int a2].toArray s 0 0 A) 6 σ 47 [(0, .ref (w.1 o)), (3, .int l3)] [.int s0, .int s1] := by
    intro σ l3 s0 s1 hv
    unfold VX3_beyond_b47 at hv
    refine y_iadd E dX3_beyond_47 ?_
    refine y_nmi (fun x6 hx6 => ?_)
    replace hv := hv x6 hx6
    refine y_istore (lv' := [(4, .int x6), (0, .ref (w.1 o)), (3, .int l3)]) E dX3_beyond_48 (by decide) rfl ?_
    refine y_iload_n E dX3_beyond_50 2 rfl ?_
    refine y_if_lt (tgt := 71) E dX3_beyond_51 (by decide) (fun c7 => ?_) (fun c7 => ?_)
    · replace hv := ite_t hv c7
      refine y_iconst (v := (-1)) E dX3_beyond_71 (by decide) ?_
      exact y_iret E dX3_beyond_72 hv
    · replace hv := ite_f hv c7
      refine y_iload_n E dX3_beyond_54 2 rfl ?_
      refine y_bipush (v := 6) E dX3_beyond_55 (by decide) ?_
      refine y_icmp_ge (tgt := 71) E dX3_beyond_57 (by decide) (fun c8 => ?_) (fun c8 => ?_)
      · replace hv := ite_t hv c8
        refine y_iconst (v := (-1)) E dX3_beyond_71 (by decide) ?_
        exact y_iret E dX3_beyond_72 hv
      · replace hv := ite_f hv c8
        refine y_iload E dX3_beyond_60 0 rfl ?_
        refine y_if_lt (tgt := 71) E dX3_beyond_62 (by decide) (fun c9 => ?_) (fun c9 => ?_)
        · replace hv := ite_t hv c9
          refine y_iconst (v := (-1)) E dX3_beyond_71 (by decide) ?_
          exact y_iret E dX3_beyond_72 hv
        · replace hv := ite_f hv c9
          refine y_iload E dX3_beyond_65 0 rfl ?_
          refine y_iconst (v := 5) E dX3_beyond_67 (by decide) ?_
          refine y_icmp_lt (tgt := 73) E dX3_beyond_68 (by decide) (fun c10 => ?_) (fun c10 => ?_)
          · replace hv := ite_t hv c10
            refine y_bipush (v := 6) E dX3_beyond_73 (by decide) ?_
            refine y_iload E dX3_beyond_75 0 rfl ?_
            refine y_imul E dX3_beyond_77 ?_
            refine y_iload_n E dX3_beyond_78 2 rfl ?_
            refine y_iadd E dX3_beyond_79 ?_
            refine y_nmi (fun x11 hx11 => ?_)
            replace hv := hv x11 hx11
            refine y_istore (lv' := [(5, .int x11), (4, .int x6), (0, .ref (w.1 o)), (3, .int l3)]) E dX3_beyond_80 (by decide) rfl ?_
            refine y_aload_n E dX3_beyond_82 2 rfl ?_
            refine gf_X3_0 E hgo.1 hgo.2 wm_132 dX3_beyond_83 ?_
            refine y_iload E dX3_beyond_86 0 rfl ?_
            refine y_calli E (y_runSN E (rest := []) (kX11_has l w E.2.2.1 σ (σ o 0) x11 _ hv) (y_cwSN (own := RX3) (host := RX11) 2 E.1.2.2.2.2 (nw_14 E.2.1.2.1.1) wm_115 wm_116 wm_117 (by decide +kernel) (yRm_le (by decide) (by decide))) rfl rfl (Nat.le_of_ble_eq_true rfl) dX3_beyond_88) (fun v12 u13 hk => ?_)
            clear hv
            have hv := hk
            clear hk
            refine y_if_eq (tgt := 98) E dX3_beyond_91 (by decide) (fun c14 => ?_) (fun c14 => ?_)
            · replace hv := ite_t hv c14
              refine y_iload E dX3_beyond_98 0 rfl ?_
              exact y_iret E dX3_beyond_100 hv
            · replace hv := ite_f hv c14
              refine y_iconst (v := (-1)) E dX3_beyond_94 (by decide) ?_
              refine y_goto (tgt := 100) E dX3_beyond_95 (by decide) ?_
              exact y_iret E dX3_beyond_100 hv
          · replace hv := ite_f hv c10
            refine y_iconst (v := (-1)) E dX3_beyond_71 (by decide) ?_
            exact y_iret E dX3_beyond_72 hv
  have hb23 : ∀ (σ : Hp) (l1 : Int32) (l2 : Int32) (s0 : Int32) (s1 : Int32), VX3_beyond_b23 K o σ l1 l2 s0 s1 → YY p l e (yRm 2) s m [.ref (w.1 o), .int a1, .int a2].toArray below meth c w xcf 55 A (MQ below (yQi w xcf 55 K A) [.ref (w.1 o), .int a1, .int a2].toArray s 0 0 A) 6 σ 23 [(0, .ref (w.1 o)), (1, .int l1), (2, .int l2)] [.int s0, .int s1] := by
    intro σ l1 l2 s0 s1 hv
    unfold VX3_beyond_b23 at hv
    refine y_iadd E dX3_beyond_23 ?_
    refine y_nmi (fun x3 hx3 => ?_)
    replace hv := hv x3 hx3
    refine y_istore_n (lv' := [(3, .int x3), (0, .ref (w.1 o)), (1, .int l1), (2, .int l2)]) E dX3_beyond_24 (by decide) rfl ?_
    refine y_iload_n E dX3_beyond_25 2 rfl ?_
    refine y_bipush (v := 6) E dX3_beyond_26 (by decide) ?_
    refine y_idiv E dX3_beyond_28 (by decide) ?_
    refine y_iload_n E dX3_beyond_29 3 rfl ?_
    refine y_iconst (v := 2) E dX3_beyond_30 (by decide) ?_
    refine y_icmp_ne (tgt := 38) E dX3_beyond_31 (by decide) (fun c4 => ?_) (fun c4 => ?_)
    · replace hv := ite_f hv c4
      refine y_iload_n E dX3_beyond_38 3 rfl ?_
      refine y_if_ne (tgt := 46) E dX3_beyond_39 (by decide) (fun c5 => ?_) (fun c5 => ?_)
      · replace hv := ite_f hv c5
        refine y_iconst (v := 0) E dX3_beyond_46 (by decide) ?_
        refine y_lv (lv' := [(0, .ref (w.1 o)), (3, .int x3)]) [1, 0] rfl ?_
        exact hb47 σ x3 0 (l1 / 6) hv
      · replace hv := ite_t hv c5
        refine y_iconst (v := (-1)) E dX3_beyond_42 (by decide) ?_
        refine y_goto (tgt := 47) E dX3_beyond_43 (by decide) ?_
        refine y_lv (lv' := [(0, .ref (w.1 o)), (3, .int x3)]) [1, 0] rfl ?_
        exact hb47 σ x3 (-1) (l1 / 6) hv
    · replace hv := ite_t hv c4
      refine y_iconst (v := 1) E dX3_beyond_34 (by decide) ?_
      refine y_goto (tgt := 47) E dX3_beyond_35 (by decide) ?_
      refine y_lv (lv' := [(0, .ref (w.1 o)), (3, .int x3)]) [1, 0] rfl ?_
      exact hb47 σ x3 1 (l1 / 6) hv
  refine y_iload_n E dX3_beyond_0 1 rfl ?_
  refine y_bipush (v := 6) E dX3_beyond_1 (by decide) ?_
  refine y_irem E dX3_beyond_3 (by decide) ?_
  refine y_iload_n E dX3_beyond_4 2 rfl ?_
  refine y_iconst (v := 1) E dX3_beyond_5 (by decide) ?_
  refine y_icmp_ne (tgt := 13) E dX3_beyond_6 (by decide) (fun c1 => ?_) (fun c1 => ?_)
  · replace hv := ite_f hv c1
    refine y_iload_n E dX3_beyond_13 2 rfl ?_
    refine y_iconst (v := 3) E dX3_beyond_14 (by decide) ?_
    refine y_icmp_ne (tgt := 22) E dX3_beyond_15 (by decide) (fun c2 => ?_) (fun c2 => ?_)
    · replace hv := ite_f hv c2
      refine y_iconst (v := 0) E dX3_beyond_22 (by decide) ?_
      exact hb23 σ a1 a2 0 (jrem a1 6) hv
    · replace hv := ite_t hv c2
      refine y_iconst (v := (-1)) E dX3_beyond_18 (by decide) ?_
      refine y_goto (tgt := 23) E dX3_beyond_19 (by decide) ?_
      exact hb23 σ a1 a2 (-1) (jrem a1 6) hv
  · replace hv := ite_t hv c1
    refine y_iconst (v := 1) E dX3_beyond_9 (by decide) ?_
    refine y_goto (tgt := 23) E dX3_beyond_10 (by decide) ?_
    exact hb23 σ a1 a2 1 (jrem a1 6) hv
theorem dX9_joined_0 : decode cX9_joined 0 = .ok (.iload_n 0, 1) := by decide +kernel
theorem dX9_joined_1 : decode cX9_joined 1 = .ok (.tableswitch 87 (-14) (-9) #[73, 62, 51, 47, 43, 39], 39) := by decide +kernel
theorem dX9_joined_40 : decode cX9_joined 40 = .ok (.iload_n 1, 1) := by decide +kernel
theorem dX9_joined_41 : decode cX9_joined 41 = .ok (.iload_n 2, 1) := by decide +kernel
theorem dX9_joined_42 : decode cX9_joined 42 = .ok (.iadd, 1) := by decide +kernel
theorem dX9_joined_43 : decode cX9_joined 43 = .ok (.ireturn, 1) := by decide +kernel
theorem dX9_joined_44 : decode cX9_joined 44 = .ok (.iload_n 1, 1) := by decide +kernel
theorem dX9_joined_45 : decode cX9_joined 45 = .ok (.iload_n 2, 1) := by decide +kernel
theorem dX9_joined_46 : decode cX9_joined 46 = .ok (.isub, 1) := by decide +kernel
theorem dX9_joined_47 : decode cX9_joined 47 = .ok (.ireturn, 1) := by decide +kernel
theorem dX9_joined_48 : decode cX9_joined 48 = .ok (.iload_n 1, 1) := by decide +kernel
theorem dX9_joined_49 : decode cX9_joined 49 = .ok (.iload_n 2, 1) := by decide +kernel
theorem dX9_joined_50 : decode cX9_joined 50 = .ok (.imul, 1) := by decide +kernel
theorem dX9_joined_51 : decode cX9_joined 51 = .ok (.ireturn, 1) := by decide +kernel
theorem dX9_joined_52 : decode cX9_joined 52 = .ok (.iload_n 1, 1) := by decide +kernel
theorem dX9_joined_53 : decode cX9_joined 53 = .ok (.iload_n 2, 1) := by decide +kernel
theorem dX9_joined_54 : decode cX9_joined 54 = .ok (.if_icmp .ge 7, 3) := by decide +kernel
theorem dX9_joined_57 : decode cX9_joined 57 = .ok (.iconst 1, 1) := by decide +kernel
theorem dX9_joined_58 : decode cX9_joined 58 = .ok (.goto 4, 3) := by decide +kernel
theorem dX9_joined_61 : decode cX9_joined 61 = .ok (.iconst 0, 1) := by decide +kernel
theorem dX9_joined_62 : decode cX9_joined 62 = .ok (.ireturn, 1) := by decide +kernel
theorem dX9_joined_63 : decode cX9_joined 63 = .ok (.iload_n 1, 1) := by decide +kernel
theorem dX9_joined_64 : decode cX9_joined 64 = .ok (.iload_n 2, 1) := by decide +kernel
theorem dX9_joined_65 : decode cX9_joined 65 = .ok (.if_icmp .ne 7, 3) := by decide +kernel
theorem dX9_joined_68 : decode cX9_joined 68 = .ok (.iconst 1, 1) := by decide +kernel
theorem dX9_joined_69 : decode cX9_joined 69 = .ok (.goto 4, 3) := by decide +kernel
theorem dX9_joined_72 : decode cX9_joined 72 = .ok (.iconst 0, 1) := by decide +kernel
theorem dX9_joined_73 : decode cX9_joined 73 = .ok (.ireturn, 1) := by decide +kernel
theorem dX9_joined_74 : decode cX9_joined 74 = .ok (.iload_n 1, 1) := by decide +kernel
theorem dX9_joined_75 : decode cX9_joined 75 = .ok (.ifCond .eq 11, 3) := by decide +kernel
theorem dX9_joined_78 : decode cX9_joined 78 = .ok (.iload_n 2, 1) := by decide +kernel
theorem dX9_joined_79 : decode cX9_joined 79 = .ok (.ifCond .eq 7, 3) := by decide +kernel
theorem dX9_joined_82 : decode cX9_joined 82 = .ok (.iconst 1, 1) := by decide +kernel
theorem dX9_joined_83 : decode cX9_joined 83 = .ok (.goto 4, 3) := by decide +kernel
theorem dX9_joined_86 : decode cX9_joined 86 = .ok (.iconst 0, 1) := by decide +kernel
theorem dX9_joined_87 : decode cX9_joined 87 = .ok (.ireturn, 1) := by decide +kernel
theorem dX9_joined_88 : decode cX9_joined 88 = .ok (.iload_n 1, 1) := by decide +kernel
theorem dX9_joined_89 : decode cX9_joined 89 = .ok (.ifCond .ne 7, 3) := by decide +kernel
theorem dX9_joined_92 : decode cX9_joined 92 = .ok (.iload_n 2, 1) := by decide +kernel
theorem dX9_joined_93 : decode cX9_joined 93 = .ok (.ifCond .eq 7, 3) := by decide +kernel
theorem dX9_joined_96 : decode cX9_joined 96 = .ok (.iconst 1, 1) := by decide +kernel
theorem dX9_joined_97 : decode cX9_joined 97 = .ok (.goto 4, 3) := by decide +kernel
theorem dX9_joined_100 : decode cX9_joined 100 = .ok (.iconst 0, 1) := by decide +kernel
theorem dX9_joined_101 : decode cX9_joined 101 = .ok (.ireturn, 1) := by decide +kernel
set_option maxRecDepth 100000 in
set_option maxHeartbeats 4000000 in
theorem kX9_joined (l : Launch) (w : wT) (hw : yOk w 55) (σ : Hp) (a1 : Int32) (a2 : Int32) (a3 : Int32) (K : Int32 → Hp → Prop) (hv : VX9_joined K σ a1 a2 a3) : yMet l w xcf 55 yX9_joined cX9_joined 3 (some .int) 1 [.int a1, .int a2, .int a3] σ (yQi w xcf 55 K) := by
  unfold VX9_joined at hv
  refine y_start (lv0 := [(0, .int a1), (1, .int a2), (2, .int a3)]) (by decide +kernel) (own := RX9) rfl hw (Nat.le_of_ble_eq_true rfl) rfl (fun p e s m below meth c A E => ?_)
  refine y_iload_n E dX9_joined_0 0 rfl ?_
  by_cases c1 : a1 = (-14)
  · replace hv := ite_t hv c1
    refine y_table1 (tgt := 74) (off := 73) (j := 0) E dX9_joined_1 (i32_eq (z := -14) (by decide) c1) (by decide) rfl (by decide) ?_
    refine y_iload_n E dX9_joined_74 1 rfl ?_
    refine y_if_eq (tgt := 86) E dX9_joined_75 (by decide) (fun c2 => ?_) (fun c2 => ?_)
    · replace hv := ite_t hv c2
      refine y_iconst (v := 0) E dX9_joined_86 (by decide) ?_
      exact y_iret E dX9_joined_87 hv
    · replace hv := ite_f hv c2
      refine y_iload_n E dX9_joined_78 2 rfl ?_
      refine y_if_eq (tgt := 86) E dX9_joined_79 (by decide) (fun c3 => ?_) (fun c3 => ?_)
      · replace hv := ite_t hv c3
        refine y_iconst (v := 0) E dX9_joined_86 (by decide) ?_
        exact y_iret E dX9_joined_87 hv
      · replace hv := ite_f hv c3
        refine y_iconst (v := 1) E dX9_joined_82 (by decide) ?_
        refine y_goto (tgt := 87) E dX9_joined_83 (by decide) ?_
        exact y_iret E dX9_joined_87 hv
  · replace hv := ite_f hv c1
    by_cases c4 : a1 = (-13)
    · replace hv := ite_t hv c4
      refine y_table1 (tgt := 63) (off := 62) (j := 1) E dX9_joined_1 (i32_eq (z := -13) (by decide) c4) (by decide) rfl (by decide) ?_
      refine y_iload_n E dX9_joined_63 1 rfl ?_
      refine y_iload_n E dX9_joined_64 2 rfl ?_
      refine y_icmp_ne (tgt := 72) E dX9_joined_65 (by decide) (fun c5 => ?_) (fun c5 => ?_)
      · replace hv := ite_f hv c5
        refine y_iconst (v := 0) E dX9_joined_72 (by decide) ?_
        exact y_iret E dX9_joined_73 hv
      · replace hv := ite_t hv c5
        refine y_iconst (v := 1) E dX9_joined_68 (by decide) ?_
        refine y_goto (tgt := 73) E dX9_joined_69 (by decide) ?_
        exact y_iret E dX9_joined_73 hv
    · replace hv := ite_f hv c4
      by_cases c6 : a1 = (-12)
      · replace hv := ite_t hv c6
        refine y_table1 (tgt := 52) (off := 51) (j := 2) E dX9_joined_1 (i32_eq (z := -12) (by decide) c6) (by decide) rfl (by decide) ?_
        refine y_iload_n E dX9_joined_52 1 rfl ?_
        refine y_iload_n E dX9_joined_53 2 rfl ?_
        refine y_icmp_ge (tgt := 61) E dX9_joined_54 (by decide) (fun c7 => ?_) (fun c7 => ?_)
        · replace hv := ite_t hv c7
          refine y_iconst (v := 0) E dX9_joined_61 (by decide) ?_
          exact y_iret E dX9_joined_62 hv
        · replace hv := ite_f hv c7
          refine y_iconst (v := 1) E dX9_joined_57 (by decide) ?_
          refine y_goto (tgt := 62) E dX9_joined_58 (by decide) ?_
          exact y_iret E dX9_joined_62 hv
      · replace hv := ite_f hv c6
        by_cases c8 : a1 = (-11)
        · replace hv := ite_t hv c8
          refine y_table1 (tgt := 48) (off := 47) (j := 3) E dX9_joined_1 (i32_eq (z := -11) (by decide) c8) (by decide) rfl (by decide) ?_
          refine y_iload_n E dX9_joined_48 1 rfl ?_
          refine y_iload_n E dX9_joined_49 2 rfl ?_
          refine y_imul E dX9_joined_50 ?_
          exact y_iret E dX9_joined_51 hv
        · replace hv := ite_f hv c8
          by_cases c9 : a1 = (-10)
          · replace hv := ite_t hv c9
            refine y_table1 (tgt := 44) (off := 43) (j := 4) E dX9_joined_1 (i32_eq (z := -10) (by decide) c9) (by decide) rfl (by decide) ?_
            refine y_iload_n E dX9_joined_44 1 rfl ?_
            refine y_iload_n E dX9_joined_45 2 rfl ?_
            refine y_isub E dX9_joined_46 ?_
            exact y_iret E dX9_joined_47 hv
          · replace hv := ite_f hv c9
            by_cases c10 : a1 = (-9)
            · replace hv := ite_t hv c10
              refine y_table1 (tgt := 40) (off := 39) (j := 5) E dX9_joined_1 (i32_eq (z := -9) (by decide) c10) (by decide) rfl (by decide) ?_
              refine y_iload_n E dX9_joined_40 1 rfl ?_
              refine y_iload_n E dX9_joined_41 2 rfl ?_
              refine y_iadd E dX9_joined_42 ?_
              exact y_iret E dX9_joined_43 hv
            · replace hv := ite_f hv c10
              refine y_table0 (tgt := 88) E dX9_joined_1 (by decide) (fun j hj => ?_) (by decide) ?_
              · match j, hj with
                | 0, _ => exact Or.inr (i32_ne (z := -14 + ((0 : Nat) : Int)) (by decide) c1)
                | 1, _ => exact Or.inr (i32_ne (z := -14 + ((1 : Nat) : Int)) (by decide) c4)
                | 2, _ => exact Or.inr (i32_ne (z := -14 + ((2 : Nat) : Int)) (by decide) c6)
                | 3, _ => exact Or.inr (i32_ne (z := -14 + ((3 : Nat) : Int)) (by decide) c8)
                | 4, _ => exact Or.inr (i32_ne (z := -14 + ((4 : Nat) : Int)) (by decide) c9)
                | 5, _ => exact Or.inr (i32_ne (z := -14 + ((5 : Nat) : Int)) (by decide) c10)
                | j + 6, hj => exact absurd hj (by simp)
              · refine y_iload_n E dX9_joined_88 1 rfl ?_
                refine y_if_ne (tgt := 96) E dX9_joined_89 (by decide) (fun c11 => ?_) (fun c11 => ?_)
                · replace hv := ite_f hv c11
                  refine y_iconst (v := 1) E dX9_joined_96 (by decide) ?_
                  refine y_goto (tgt := 101) E dX9_joined_97 (by decide) ?_
                  exact y_iret E dX9_joined_101 hv
                · replace hv := ite_t hv c11
                  refine y_iload_n E dX9_joined_92 2 rfl ?_
                  refine y_if_eq (tgt := 100) E dX9_joined_93 (by decide) (fun c12 => ?_) (fun c12 => ?_)
                  · replace hv := ite_t hv c12
                    refine y_iconst (v := 0) E dX9_joined_100 (by decide) ?_
                    exact y_iret E dX9_joined_101 hv
                  · replace hv := ite_f hv c12
                    refine y_iconst (v := 1) E dX9_joined_96 (by decide) ?_
                    refine y_goto (tgt := 101) E dX9_joined_97 (by decide) ?_
                    exact y_iret E dX9_joined_101 hv
theorem dX9_leaf_0 : decode cX9_leaf 0 = .ok (.iload_n 0, 1) := by decide +kernel
theorem dX9_leaf_1 : decode cX9_leaf 1 = .ok (.tableswitch 58 (-6) (-1) #[55, 53, 51, 46, 41, 39], 39) := by decide +kernel
theorem dX9_leaf_40 : decode cX9_leaf 40 = .ok (.iload_n 1, 1) := by decide +kernel
theorem dX9_leaf_41 : decode cX9_leaf 41 = .ok (.ireturn, 1) := by decide +kernel
theorem dX9_leaf_42 : decode cX9_leaf 42 = .ok (.iload_n 1, 1) := by decide +kernel
theorem dX9_leaf_43 : decode cX9_leaf 43 = .ok (.bipush 6, 2) := by decide +kernel
theorem dX9_leaf_45 : decode cX9_leaf 45 = .ok (.irem, 1) := by decide +kernel
theorem dX9_leaf_46 : decode cX9_leaf 46 = .ok (.ireturn, 1) := by decide +kernel
theorem dX9_leaf_47 : decode cX9_leaf 47 = .ok (.iload_n 1, 1) := by decide +kernel
theorem dX9_leaf_48 : decode cX9_leaf 48 = .ok (.bipush 6, 2) := by decide +kernel
theorem dX9_leaf_50 : decode cX9_leaf 50 = .ok (.idiv, 1) := by decide +kernel
theorem dX9_leaf_51 : decode cX9_leaf 51 = .ok (.ireturn, 1) := by decide +kernel
theorem dX9_leaf_52 : decode cX9_leaf 52 = .ok (.iload_n 2, 1) := by decide +kernel
theorem dX9_leaf_53 : decode cX9_leaf 53 = .ok (.ireturn, 1) := by decide +kernel
theorem dX9_leaf_54 : decode cX9_leaf 54 = .ok (.iload_n 3, 1) := by decide +kernel
theorem dX9_leaf_55 : decode cX9_leaf 55 = .ok (.ireturn, 1) := by decide +kernel
theorem dX9_leaf_56 : decode cX9_leaf 56 = .ok (.iload 4, 2) := by decide +kernel
theorem dX9_leaf_58 : decode cX9_leaf 58 = .ok (.ireturn, 1) := by decide +kernel
theorem dX9_leaf_59 : decode cX9_leaf 59 = .ok (.iload_n 0, 1) := by decide +kernel
theorem dX9_leaf_60 : decode cX9_leaf 60 = .ok (.ireturn, 1) := by decide +kernel
set_option maxRecDepth 100000 in
set_option maxHeartbeats 4000000 in
theorem kX9_leaf (l : Launch) (w : wT) (hw : yOk w 55) (σ : Hp) (a1 : Int32) (a2 : Int32) (a3 : Int32) (a4 : Int32) (a5 : Int32) (K : Int32 → Hp → Prop) (hv : VX9_leaf K σ a1 a2 a3 a4 a5) : yMet l w xcf 55 yX9_leaf cX9_leaf 5 (some .int) 1 [.int a1, .int a2, .int a3, .int a4, .int a5] σ (yQi w xcf 55 K) := by
  unfold VX9_leaf at hv
  refine y_start (lv0 := [(0, .int a1), (1, .int a2), (2, .int a3), (3, .int a4), (4, .int a5)]) (by decide +kernel) (own := RX9) rfl hw (Nat.le_of_ble_eq_true rfl) rfl (fun p e s m below meth c A E => ?_)
  refine y_iload_n E dX9_leaf_0 0 rfl ?_
  by_cases c1 : a1 = (-6)
  · replace hv := ite_t hv c1
    refine y_table1 (tgt := 56) (off := 55) (j := 0) E dX9_leaf_1 (i32_eq (z := -6) (by decide) c1) (by decide) rfl (by decide) ?_
    refine y_iload E dX9_leaf_56 4 rfl ?_
    exact y_iret E dX9_leaf_58 hv
  · replace hv := ite_f hv c1
    by_cases c2 : a1 = (-5)
    · replace hv := ite_t hv c2
      refine y_table1 (tgt := 54) (off := 53) (j := 1) E dX9_leaf_1 (i32_eq (z := -5) (by decide) c2) (by decide) rfl (by decide) ?_
      refine y_iload_n E dX9_leaf_54 3 rfl ?_
      exact y_iret E dX9_leaf_55 hv
    · replace hv := ite_f hv c2
      by_cases c3 : a1 = (-4)
      · replace hv := ite_t hv c3
        refine y_table1 (tgt := 52) (off := 51) (j := 2) E dX9_leaf_1 (i32_eq (z := -4) (by decide) c3) (by decide) rfl (by decide) ?_
        refine y_iload_n E dX9_leaf_52 2 rfl ?_
        exact y_iret E dX9_leaf_53 hv
      · replace hv := ite_f hv c3
        by_cases c4 : a1 = (-3)
        · replace hv := ite_t hv c4
          refine y_table1 (tgt := 47) (off := 46) (j := 3) E dX9_leaf_1 (i32_eq (z := -3) (by decide) c4) (by decide) rfl (by decide) ?_
          refine y_iload_n E dX9_leaf_47 1 rfl ?_
          refine y_bipush (v := 6) E dX9_leaf_48 (by decide) ?_
          refine y_idiv E dX9_leaf_50 (by decide) ?_
          exact y_iret E dX9_leaf_51 hv
        · replace hv := ite_f hv c4
          by_cases c5 : a1 = (-2)
          · replace hv := ite_t hv c5
            refine y_table1 (tgt := 42) (off := 41) (j := 4) E dX9_leaf_1 (i32_eq (z := -2) (by decide) c5) (by decide) rfl (by decide) ?_
            refine y_iload_n E dX9_leaf_42 1 rfl ?_
            refine y_bipush (v := 6) E dX9_leaf_43 (by decide) ?_
            refine y_irem E dX9_leaf_45 (by decide) ?_
            exact y_iret E dX9_leaf_46 hv
          · replace hv := ite_f hv c5
            by_cases c6 : a1 = (-1)
            · replace hv := ite_t hv c6
              refine y_table1 (tgt := 40) (off := 39) (j := 5) E dX9_leaf_1 (i32_eq (z := -1) (by decide) c6) (by decide) rfl (by decide) ?_
              refine y_iload_n E dX9_leaf_40 1 rfl ?_
              exact y_iret E dX9_leaf_41 hv
            · replace hv := ite_f hv c6
              refine y_table0 (tgt := 59) E dX9_leaf_1 (by decide) (fun j hj => ?_) (by decide) ?_
              · match j, hj with
                | 0, _ => exact Or.inr (i32_ne (z := -6 + ((0 : Nat) : Int)) (by decide) c1)
                | 1, _ => exact Or.inr (i32_ne (z := -6 + ((1 : Nat) : Int)) (by decide) c2)
                | 2, _ => exact Or.inr (i32_ne (z := -6 + ((2 : Nat) : Int)) (by decide) c3)
                | 3, _ => exact Or.inr (i32_ne (z := -6 + ((3 : Nat) : Int)) (by decide) c4)
                | 4, _ => exact Or.inr (i32_ne (z := -6 + ((4 : Nat) : Int)) (by decide) c5)
                | 5, _ => exact Or.inr (i32_ne (z := -6 + ((5 : Nat) : Int)) (by decide) c6)
                | j + 6, hj => exact absurd hj (by simp)
              · refine y_iload_n E dX9_leaf_59 0 rfl ?_
                exact y_iret E dX9_leaf_60 hv
theorem dX9_says_0 : decode cX9_says 0 = .ok (.iconst 0, 1) := by decide +kernel
theorem dX9_says_1 : decode cX9_says 1 = .ok (.istore 6, 2) := by decide +kernel
theorem dX9_says_3 : decode cX9_says 3 = .ok (.aload_n 0, 1) := by decide +kernel
theorem dX9_says_4 : decode cX9_says 4 = .ok (.getfield 15, 3) := by decide +kernel
theorem dX9_says_7 : decode cX9_says 7 = .ok (.iload_n 1, 1) := by decide +kernel
theorem dX9_says_8 : decode cX9_says 8 = .ok (.iaload, 1) := by decide +kernel
theorem dX9_says_9 : decode cX9_says 9 = .ok (.istore 7, 2) := by decide +kernel
theorem dX9_says_11 : decode cX9_says 11 = .ok (.iload 7, 2) := by decide +kernel
theorem dX9_says_13 : decode cX9_says 13 = .ok (.aload_n 0, 1) := by decide +kernel
theorem dX9_says_14 : decode cX9_says 14 = .ok (.getfield 15, 3) := by decide +kernel
theorem dX9_says_17 : decode cX9_says 17 = .ok (.iload_n 1, 1) := by decide +kernel
theorem dX9_says_18 : decode cX9_says 18 = .ok (.iconst 1, 1) := by decide +kernel
theorem dX9_says_19 : decode cX9_says 19 = .ok (.iadd, 1) := by decide +kernel
theorem dX9_says_20 : decode cX9_says 20 = .ok (.iaload, 1) := by decide +kernel
theorem dX9_says_21 : decode cX9_says 21 = .ok (.if_icmp .ge 157, 3) := by decide +kernel
theorem dX9_says_24 : decode cX9_says 24 = .ok (.aload_n 0, 1) := by decide +kernel
theorem dX9_says_25 : decode cX9_says 25 = .ok (.getfield 9, 3) := by decide +kernel
theorem dX9_says_28 : decode cX9_says 28 = .ok (.iload 7, 2) := by decide +kernel
theorem dX9_says_30 : decode cX9_says 30 = .ok (.iaload, 1) := by decide +kernel
theorem dX9_says_31 : decode cX9_says 31 = .ok (.istore 8, 2) := by decide +kernel
theorem dX9_says_33 : decode cX9_says 33 = .ok (.iload 8, 2) := by decide +kernel
theorem dX9_says_35 : decode cX9_says 35 = .ok (.bipush (-6), 2) := by decide +kernel
theorem dX9_says_37 : decode cX9_says 37 = .ok (.if_icmp .lt 35, 3) := by decide +kernel
theorem dX9_says_40 : decode cX9_says 40 = .ok (.iload 6, 2) := by decide +kernel
theorem dX9_says_42 : decode cX9_says 42 = .ok (.sipush 160, 3) := by decide +kernel
theorem dX9_says_45 : decode cX9_says 45 = .ok (.if_icmp .ge 27, 3) := by decide +kernel
theorem dX9_says_48 : decode cX9_says 48 = .ok (.aload_n 0, 1) := by decide +kernel
theorem dX9_says_49 : decode cX9_says 49 = .ok (.getfield 18, 3) := by decide +kernel
theorem dX9_says_52 : decode cX9_says 52 = .ok (.iload 6, 2) := by decide +kernel
theorem dX9_says_54 : decode cX9_says 54 = .ok (.iload 8, 2) := by decide +kernel
theorem dX9_says_56 : decode cX9_says 56 = .ok (.iload_n 2, 1) := by decide +kernel
theorem dX9_says_57 : decode cX9_says 57 = .ok (.iload_n 3, 1) := by decide +kernel
theorem dX9_says_58 : decode cX9_says 58 = .ok (.iload 4, 2) := by decide +kernel
theorem dX9_says_60 : decode cX9_says 60 = .ok (.iload 5, 2) := by decide +kernel
theorem dX9_says_62 : decode cX9_says 62 = .ok (.invokestatic 38, 3) := by decide +kernel
theorem dX9_says_65 : decode cX9_says 65 = .ok (.iastore, 1) := by decide +kernel
theorem dX9_says_66 : decode cX9_says 66 = .ok (.iinc 6 1, 3) := by decide +kernel
theorem dX9_says_69 : decode cX9_says 69 = .ok (.goto 103, 3) := by decide +kernel
theorem dX9_says_72 : decode cX9_says 72 = .ok (.iload 8, 2) := by decide +kernel
theorem dX9_says_74 : decode cX9_says 74 = .ok (.bipush (-8), 2) := by decide +kernel
theorem dX9_says_76 : decode cX9_says 76 = .ok (.if_icmp .lt 57, 3) := by decide +kernel
theorem dX9_says_79 : decode cX9_says 79 = .ok (.iload 6, 2) := by decide +kernel
theorem dX9_says_81 : decode cX9_says 81 = .ok (.ifCond .le 52, 3) := by decide +kernel
theorem dX9_says_84 : decode cX9_says 84 = .ok (.aload_n 0, 1) := by decide +kernel
theorem dX9_says_85 : decode cX9_says 85 = .ok (.getfield 18, 3) := by decide +kernel
theorem dX9_says_88 : decode cX9_says 88 = .ok (.iload 6, 2) := by decide +kernel
theorem dX9_says_90 : decode cX9_says 90 = .ok (.iconst 1, 1) := by decide +kernel
theorem dX9_says_91 : decode cX9_says 91 = .ok (.isub, 1) := by decide +kernel
theorem dX9_says_92 : decode cX9_says 92 = .ok (.iload 8, 2) := by decide +kernel
theorem dX9_says_94 : decode cX9_says 94 = .ok (.bipush (-8), 2) := by decide +kernel
theorem dX9_says_96 : decode cX9_says 96 = .ok (.if_icmp .ne 16, 3) := by decide +kernel
theorem dX9_says_99 : decode cX9_says 99 = .ok (.aload_n 0, 1) := by decide +kernel
theorem dX9_says_100 : decode cX9_says 100 = .ok (.getfield 18, 3) := by decide +kernel
theorem dX9_says_103 : decode cX9_says 103 = .ok (.iload 6, 2) := by decide +kernel
theorem dX9_says_105 : decode cX9_says 105 = .ok (.iconst 1, 1) := by decide +kernel
theorem dX9_says_106 : decode cX9_says 106 = .ok (.isub, 1) := by decide +kernel
theorem dX9_says_107 : decode cX9_says 107 = .ok (.iaload, 1) := by decide +kernel
theorem dX9_says_108 : decode cX9_says 108 = .ok (.ineg, 1) := by decide +kernel
theorem dX9_says_109 : decode cX9_says 109 = .ok (.goto 20, 3) := by decide +kernel
theorem dX9_says_112 : decode cX9_says 112 = .ok (.aload_n 0, 1) := by decide +kernel
theorem dX9_says_113 : decode cX9_says 113 = .ok (.getfield 18, 3) := by decide +kernel
theorem dX9_says_116 : decode cX9_says 116 = .ok (.iload 6, 2) := by decide +kernel
theorem dX9_says_118 : decode cX9_says 118 = .ok (.iconst 1, 1) := by decide +kernel
theorem dX9_says_119 : decode cX9_says 119 = .ok (.isub, 1) := by decide +kernel
theorem dX9_says_120 : decode cX9_says 120 = .ok (.iaload, 1) := by decide +kernel
theorem dX9_says_121 : decode cX9_says 121 = .ok (.ifCond .ne 7, 3) := by decide +kernel
theorem dX9_says_124 : decode cX9_says 124 = .ok (.iconst 1, 1) := by decide +kernel
theorem dX9_says_125 : decode cX9_says 125 = .ok (.goto 4, 3) := by decide +kernel
theorem dX9_says_128 : decode cX9_says 128 = .ok (.iconst 0, 1) := by decide +kernel
theorem dX9_says_129 : decode cX9_says 129 = .ok (.iastore, 1) := by decide +kernel
theorem dX9_says_130 : decode cX9_says 130 = .ok (.goto 42, 3) := by decide +kernel
theorem dX9_says_133 : decode cX9_says 133 = .ok (.iload 6, 2) := by decide +kernel
theorem dX9_says_135 : decode cX9_says 135 = .ok (.iconst 1, 1) := by decide +kernel
theorem dX9_says_136 : decode cX9_says 136 = .ok (.if_icmp .le 36, 3) := by decide +kernel
theorem dX9_says_139 : decode cX9_says 139 = .ok (.iinc 6 (-1), 3) := by decide +kernel
theorem dX9_says_142 : decode cX9_says 142 = .ok (.aload_n 0, 1) := by decide +kernel
theorem dX9_says_143 : decode cX9_says 143 = .ok (.getfield 18, 3) := by decide +kernel
theorem dX9_says_146 : decode cX9_says 146 = .ok (.iload 6, 2) := by decide +kernel
theorem dX9_says_148 : decode cX9_says 148 = .ok (.iconst 1, 1) := by decide +kernel
theorem dX9_says_149 : decode cX9_says 149 = .ok (.isub, 1) := by decide +kernel
theorem dX9_says_150 : decode cX9_says 150 = .ok (.iload 8, 2) := by decide +kernel
theorem dX9_says_152 : decode cX9_says 152 = .ok (.aload_n 0, 1) := by decide +kernel
theorem dX9_says_153 : decode cX9_says 153 = .ok (.getfield 18, 3) := by decide +kernel
theorem dX9_says_156 : decode cX9_says 156 = .ok (.iload 6, 2) := by decide +kernel
theorem dX9_says_158 : decode cX9_says 158 = .ok (.iconst 1, 1) := by decide +kernel
theorem dX9_says_159 : decode cX9_says 159 = .ok (.isub, 1) := by decide +kernel
theorem dX9_says_160 : decode cX9_says 160 = .ok (.iaload, 1) := by decide +kernel
theorem dX9_says_161 : decode cX9_says 161 = .ok (.aload_n 0, 1) := by decide +kernel
theorem dX9_says_162 : decode cX9_says 162 = .ok (.getfield 18, 3) := by decide +kernel
theorem dX9_says_165 : decode cX9_says 165 = .ok (.iload 6, 2) := by decide +kernel
theorem dX9_says_167 : decode cX9_says 167 = .ok (.iaload, 1) := by decide +kernel
theorem dX9_says_168 : decode cX9_says 168 = .ok (.invokestatic 42, 3) := by decide +kernel
theorem dX9_says_171 : decode cX9_says 171 = .ok (.iastore, 1) := by decide +kernel
theorem dX9_says_172 : decode cX9_says 172 = .ok (.iinc 7 1, 3) := by decide +kernel
theorem dX9_says_175 : decode cX9_says 175 = .ok (.goto (-164), 3) := by decide +kernel
theorem dX9_says_178 : decode cX9_says 178 = .ok (.iload_n 1, 1) := by decide +kernel
theorem dX9_says_179 : decode cX9_says 179 = .ok (.ifCond .ne 7, 3) := by decide +kernel
theorem dX9_says_182 : decode cX9_says 182 = .ok (.iconst 4, 1) := by decide +kernel
theorem dX9_says_183 : decode cX9_says 183 = .ok (.goto 15, 3) := by decide +kernel
theorem dX9_says_186 : decode cX9_says 186 = .ok (.iload_n 1, 1) := by decide +kernel
theorem dX9_says_187 : decode cX9_says 187 = .ok (.iconst 1, 1) := by decide +kernel
theorem dX9_says_188 : decode cX9_says 188 = .ok (.if_icmp .ne 8, 3) := by decide +kernel
theorem dX9_says_191 : decode cX9_says 191 = .ok (.bipush 99, 2) := by decide +kernel
theorem dX9_says_193 : decode cX9_says 193 = .ok (.goto 5, 3) := by decide +kernel
theorem dX9_says_196 : decode cX9_says 196 = .ok (.bipush 9, 2) := by decide +kernel
theorem dX9_says_198 : decode cX9_says 198 = .ok (.istore 7, 2) := by decide +kernel
theorem dX9_says_200 : decode cX9_says 200 = .ok (.iconst 0, 1) := by decide +kernel
theorem dX9_says_201 : decode cX9_says 201 = .ok (.iload 7, 2) := by decide +kernel
theorem dX9_says_203 : decode cX9_says 203 = .ok (.aload_n 0, 1) := by decide +kernel
theorem dX9_says_204 : decode cX9_says 204 = .ok (.getfield 18, 3) := by decide +kernel
theorem dX9_says_207 : decode cX9_says 207 = .ok (.iconst 0, 1) := by decide +kernel
theorem dX9_says_208 : decode cX9_says 208 = .ok (.iaload, 1) := by decide +kernel
theorem dX9_says_209 : decode cX9_says 209 = .ok (.invokestatic 46, 3) := by decide +kernel
theorem dX9_says_212 : decode cX9_says 212 = .ok (.invokestatic 52, 3) := by decide +kernel
theorem dX9_says_215 : decode cX9_says 215 = .ok (.ireturn, 1) := by decide +kernel
set_option maxRecDepth 100000 in
set_option maxHeartbeats 4000000 in
theorem kX9_says (l : Launch) (w : wT) (hw : yOk w 55) (σ : Hp) (o : Nat) (a1 : Int32) (a2 : Int32) (a3 : Int32) (a4 : Int32) (a5 : Int32) (K : Int32 → Hp → Prop) (hv : VX9_says K σ o a1 a2 a3 a4 a5) : yMet l w xcf 55 yX9_says cX9_says 9 (some .int) 2 [.ref (w.1 o), .int a1, .int a2, .int a3, .int a4, .int a5] σ (yQi w xcf 55 K) := by
  unfold VX9_says at hv
  refine y_start (lv0 := [(0, .ref (w.1 o)), (1, .int a1), (2, .int a2), (3, .int a3), (4, .int a4), (5, .int a5)]) (by decide +kernel) (own := RX9) rfl hw (Nat.le_of_ble_eq_true rfl) rfl (fun p e s m below meth c A E => ?_)
  obtain ⟨hgo, hv⟩ := hv
  have hb198 : ∀ (σ : Hp) (s0 : Int32), VX9_says_b198 K o σ s0 → YY p l e (yRm 2) s m [.ref (w.1 o), .int a1, .int a2, .int a3, .int a4, .int a5].toArray below meth c w xcf 55 A (MQ below (yQi w xcf 55 K A) [.ref (w.1 o), .int a1, .int a2, .int a3, .int a4, .int a5].toArray s 0 0 A) 9 σ 198 [(0, .ref (w.1 o))] [.int s0] := by
    intro σ s0 hv
    unfold VX9_says_b198 at hv
    refine y_istore (lv' := [(7, .int s0), (0, .ref (w.1 o))]) E dX9_says_198 (by decide) rfl ?_
    refine y_iconst (v := 0) E dX9_says_200 (by decide) ?_
    refine y_iload E dX9_says_201 0 rfl ?_
    refine y_aload_n E dX9_says_203 1 rfl ?_
    refine gf_X9_2 E hgo.1 hgo.2 wm_252 dX9_says_204 ?_
    refine y_iconst (v := 0) E dX9_says_207 (by decide) ?_
    refine y_ialdc (j := 0) E (Nat.lt_of_lt_of_le (show 37 < 38 by decide) (by decide)) (xc_stack (by decide) (by decide)) (by decide) (by decide) dX9_says_208 ?_
    refine y_mmin E wm_256 wm_257 wm_243 wm_258 (by decide) (Nat.le_of_ble_eq_true rfl) dX9_says_209 ?_
    refine y_mmax E wm_259 wm_260 wm_243 wm_261 (by decide) (Nat.le_of_ble_eq_true rfl) dX9_says_212 ?_
    exact y_iret E dX9_says_215 hv
  have hL11 : ∀ (n11 : Nat) (σ : Hp) (l1 : Int32) (l2 : Int32) (l3 : Int32) (l4 : Int32) (l5 : Int32) (l6 : Int32) (l7 : Int32), VX9_says_L11 K o n11 σ l1 l2 l3 l4 l5 l6 l7 → YY p l e (yRm 2) s m [.ref (w.1 o), .int a1, .int a2, .int a3, .int a4, .int a5].toArray below meth c w xcf 55 A (MQ below (yQi w xcf 55 K A) [.ref (w.1 o), .int a1, .int a2, .int a3, .int a4, .int a5].toArray s 0 0 A) 9 σ 11 [(0, .ref (w.1 o)), (1, .int l1), (2, .int l2), (3, .int l3), (4, .int l4), (5, .int l5), (6, .int l6), (7, .int l7)] [] := by
    intro n11
    induction n11 with
    | zero => exact fun _ _ _ _ _ _ _ _ hv => (by unfold VX9_says_L11 at hv; exact hv.elim)
    | succ n11 ih11 =>
      have hb133 : ∀ (σ : Hp) (l1 : Int32) (l2 : Int32) (l3 : Int32) (l4 : Int32) (l5 : Int32) (l6 : Int32) (l7 : Int32) (l8 : Int32), VX9_says_b133 K (VX9_says_L11 K o n11) o σ l1 l2 l3 l4 l5 l6 l7 l8 → YY p l e (yRm 2) s m [.ref (w.1 o), .int a1, .int a2, .int a3, .int a4, .int a5].toArray below meth c w xcf 55 A (MQ below (yQi w xcf 55 K A) [.ref (w.1 o), .int a1, .int a2, .int a3, .int a4, .int a5].toArray s 0 0 A) 9 σ 133 [(0, .ref (w.1 o)), (1, .int l1), (2, .int l2), (3, .int l3), (4, .int l4), (5, .int l5), (6, .int l6), (7, .int l7), (8, .int l8)] [] := by
        intro σ l1 l2 l3 l4 l5 l6 l7 l8 hv
        unfold VX9_says_b133 at hv
        refine y_iload E dX9_says_133 6 rfl ?_
        refine y_iconst (v := 1) E dX9_says_135 (by decide) ?_
        refine y_icmp_le (tgt := 172) E dX9_says_136 (by decide) (fun c26 => ?_) (fun c26 => ?_)
        · replace hv := ite_t hv c26
          obtain ⟨x27, hx27⟩ : ∃ z : Int32, z = l7 + 1 := ⟨_, rfl⟩
          replace hv := hv x27 hx27
          refine y_iinc (v := x27) (lv' := [(7, .int x27), (0, .ref (w.1 o)), (1, .int l1), (2, .int l2), (3, .int l3), (4, .int l4), (5, .int l5), (6, .int l6), (8, .int l8)]) E dX9_says_172 7 rfl (by rw [hx27]; rfl) (by decide) rfl ?_
          refine y_goto (tgt := 11) E dX9_says_175 (by decide) ?_
          refine y_lv (lv' := [(0, .ref (w.1 o)), (1, .int l1), (2, .int l2), (3, .int l3), (4, .int l4), (5, .int l5), (6, .int l6), (7, .int x27)]) [1, 2, 3, 4, 5, 6, 7, 0] rfl ?_
          exact ih11 σ l1 l2 l3 l4 l5 l6 x27 hv
        · replace hv := ite_f hv c26
          obtain ⟨x28, hx28⟩ : ∃ z : Int32, z = l6 + (-1) := ⟨_, rfl⟩
          replace hv := hv x28 hx28
          refine y_iinc (v := x28) (lv' := [(6, .int x28), (0, .ref (w.1 o)), (1, .int l1), (2, .int l2), (3, .int l3), (4, .int l4), (5, .int l5), (7, .int l7), (8, .int l8)]) E dX9_says_139 6 rfl (by rw [hx28]; rfl) (by decide) rfl ?_
          refine y_aload_n E dX9_says_142 1 rfl ?_
          refine gf_X9_2 E hgo.1 hgo.2 wm_252 dX9_says_143 ?_
          refine y_iload E dX9_says_146 0 rfl ?_
          refine y_iconst (v := 1) E dX9_says_148 (by decide) ?_
          refine y_isub E dX9_says_149 ?_
          refine y_iload E dX9_says_150 8 rfl ?_
          refine y_aload_n E dX9_says_152 1 rfl ?_
          refine gf_X9_2 E hgo.1 hgo.2 wm_252 dX9_says_153 ?_
          refine y_iload E dX9_says_156 0 rfl ?_
          refine y_iconst (v := 1) E dX9_says_158 (by decide) ?_
          refine y_isub E dX9_says_159 ?_
          obtain ⟨hi, hv⟩ := hv
          refine y_iald E (Nat.lt_of_lt_of_le (show 37 < 38 by decide) (by decide)) (xc_stack (by decide) (by decide)) hi dX9_says_160 ?_
          refine y_aload_n E dX9_says_161 1 rfl ?_
          refine gf_X9_2 E hgo.1 hgo.2 wm_252 dX9_says_162 ?_
          refine y_iload E dX9_says_165 0 rfl ?_
          obtain ⟨hi, hv⟩ := hv
          refine y_iald E (Nat.lt_of_lt_of_le (show 37 < 38 by decide) (by decide)) (xc_stack (by decide) (by decide)) hi dX9_says_167 ?_
          refine y_calli E (y_runS E (rest := [.int (x28 - 1), .ref (w.1 37)]) (kX9_joined l w E.2.2.1 σ l8 (σ 37 (x28 - 1).toNatClampNeg) (σ 37 x28.toNatClampNeg) _ hv) (y_cwS 3 E.1.2.2.2.2 wm_262 wm_263 wm_113 wm_264 (by decide +kernel) (yRm_le (by decide) (by decide))) rfl rfl (Nat.le_of_ble_eq_true rfl) dX9_says_168) (fun v29 u30 hk => ?_)
          clear hv
          have hv := hk
          clear hk
          obtain ⟨hi, hv⟩ := hv
          refine y_iast E (Nat.lt_of_lt_of_le (show 37 < 38 by decide) (by decide)) (fun _ => xc_stack (by decide) (by decide)) hi dX9_says_171 ?_
          refine y_nmH (fun u31 hu31 => ?_)
          replace hv := hv u31 hu31
          obtain ⟨x32, hx32⟩ : ∃ z : Int32, z = l7 + 1 := ⟨_, rfl⟩
          replace hv := hv x32 hx32
          refine y_iinc (v := x32) (lv' := [(7, .int x32), (6, .int x28), (0, .ref (w.1 o)), (1, .int l1), (2, .int l2), (3, .int l3), (4, .int l4), (5, .int l5), (8, .int l8)]) E dX9_says_172 7 rfl (by rw [hx32]; rfl) (by decide) rfl ?_
          refine y_goto (tgt := 11) E dX9_says_175 (by decide) ?_
          refine y_lv (lv' := [(0, .ref (w.1 o)), (1, .int l1), (2, .int l2), (3, .int l3), (4, .int l4), (5, .int l5), (6, .int x28), (7, .int x32)]) [2, 3, 4, 5, 6, 7, 1, 0] rfl ?_
          exact ih11 u31 l1 l2 l3 l4 l5 x28 x32 hv
      have hb72 : ∀ (σ : Hp) (l1 : Int32) (l2 : Int32) (l3 : Int32) (l4 : Int32) (l5 : Int32) (l6 : Int32) (l7 : Int32) (l8 : Int32), VX9_says_b72 K (VX9_says_L11 K o n11) o σ l1 l2 l3 l4 l5 l6 l7 l8 → YY p l e (yRm 2) s m [.ref (w.1 o), .int a1, .int a2, .int a3, .int a4, .int a5].toArray below meth c w xcf 55 A (MQ below (yQi w xcf 55 K A) [.ref (w.1 o), .int a1, .int a2, .int a3, .int a4, .int a5].toArray s 0 0 A) 9 σ 72 [(0, .ref (w.1 o)), (1, .int l1), (2, .int l2), (3, .int l3), (4, .int l4), (5, .int l5), (6, .int l6), (7, .int l7), (8, .int l8)] [] := by
        intro σ l1 l2 l3 l4 l5 l6 l7 l8 hv
        unfold VX9_says_b72 at hv
        refine y_iload E dX9_says_72 8 rfl ?_
        refine y_bipush (v := (-8)) E dX9_says_74 (by decide) ?_
        refine y_icmp_lt (tgt := 133) E dX9_says_76 (by decide) (fun c16 => ?_) (fun c16 => ?_)
        · replace hv := ite_t hv c16
          exact hb133 σ l1 l2 l3 l4 l5 l6 l7 l8 hv
        · replace hv := ite_f hv c16
          refine y_iload E dX9_says_79 6 rfl ?_
          refine y_if_le (tgt := 133) E dX9_says_81 (by decide) (fun c17 => ?_) (fun c17 => ?_)
          · replace hv := ite_t hv c17
            exact hb133 σ l1 l2 l3 l4 l5 l6 l7 l8 hv
          · replace hv := ite_f hv c17
            refine y_aload_n E dX9_says_84 0 rfl ?_
            refine gf_X9_2 E hgo.1 hgo.2 wm_252 dX9_says_85 ?_
            refine y_iload E dX9_says_88 6 rfl ?_
            refine y_iconst (v := 1) E dX9_says_90 (by decide) ?_
            refine y_isub E dX9_says_91 ?_
            refine y_iload E dX9_says_92 8 rfl ?_
            refine y_bipush (v := (-8)) E dX9_says_94 (by decide) ?_
            refine y_icmp_ne (tgt := 112) E dX9_says_96 (by decide) (fun c18 => ?_) (fun c18 => ?_)
            · replace hv := ite_f hv c18
              refine y_aload_n E dX9_says_112 0 rfl ?_
              refine gf_X9_2 E hgo.1 hgo.2 wm_252 dX9_says_113 ?_
              refine y_iload E dX9_says_116 6 rfl ?_
              refine y_iconst (v := 1) E dX9_says_118 (by decide) ?_
              refine y_isub E dX9_says_119 ?_
              obtain ⟨hi, hv⟩ := hv
              refine y_iald E (Nat.lt_of_lt_of_le (show 37 < 38 by decide) (by decide)) (xc_stack (by decide) (by decide)) hi dX9_says_120 ?_
              refine y_if_ne (tgt := 128) E dX9_says_121 (by decide) (fun c19 => ?_) (fun c19 => ?_)
              · replace hv := ite_f hv c19
                refine y_iconst (v := 0) E dX9_says_128 (by decide) ?_
                obtain ⟨hi, hv⟩ := hv
                refine y_iast E (Nat.lt_of_lt_of_le (show 37 < 38 by decide) (by decide)) (fun _ => xc_stack (by decide) (by decide)) hi dX9_says_129 ?_
                refine y_nmH (fun u20 hu20 => ?_)
                replace hv := hv u20 hu20
                refine y_goto (tgt := 172) E dX9_says_130 (by decide) ?_
                obtain ⟨x21, hx21⟩ : ∃ z : Int32, z = l7 + 1 := ⟨_, rfl⟩
                replace hv := hv x21 hx21
                refine y_iinc (v := x21) (lv' := [(7, .int x21), (0, .ref (w.1 o)), (1, .int l1), (2, .int l2), (3, .int l3), (4, .int l4), (5, .int l5), (6, .int l6), (8, .int l8)]) E dX9_says_172 7 rfl (by rw [hx21]; rfl) (by decide) rfl ?_
                refine y_goto (tgt := 11) E dX9_says_175 (by decide) ?_
                refine y_lv (lv' := [(0, .ref (w.1 o)), (1, .int l1), (2, .int l2), (3, .int l3), (4, .int l4), (5, .int l5), (6, .int l6), (7, .int x21)]) [1, 2, 3, 4, 5, 6, 7, 0] rfl ?_
                exact ih11 u20 l1 l2 l3 l4 l5 l6 x21 hv
              · replace hv := ite_t hv c19
                refine y_iconst (v := 1) E dX9_says_124 (by decide) ?_
                refine y_goto (tgt := 129) E dX9_says_125 (by decide) ?_
                obtain ⟨hi, hv⟩ := hv
                refine y_iast E (Nat.lt_of_lt_of_le (show 37 < 38 by decide) (by decide)) (fun _ => xc_stack (by decide) (by decide)) hi dX9_says_129 ?_
                refine y_nmH (fun u22 hu22 => ?_)
                replace hv := hv u22 hu22
                refine y_goto (tgt := 172) E dX9_says_130 (by decide) ?_
                obtain ⟨x23, hx23⟩ : ∃ z : Int32, z = l7 + 1 := ⟨_, rfl⟩
                replace hv := hv x23 hx23
                refine y_iinc (v := x23) (lv' := [(7, .int x23), (0, .ref (w.1 o)), (1, .int l1), (2, .int l2), (3, .int l3), (4, .int l4), (5, .int l5), (6, .int l6), (8, .int l8)]) E dX9_says_172 7 rfl (by rw [hx23]; rfl) (by decide) rfl ?_
                refine y_goto (tgt := 11) E dX9_says_175 (by decide) ?_
                refine y_lv (lv' := [(0, .ref (w.1 o)), (1, .int l1), (2, .int l2), (3, .int l3), (4, .int l4), (5, .int l5), (6, .int l6), (7, .int x23)]) [1, 2, 3, 4, 5, 6, 7, 0] rfl ?_
                exact ih11 u22 l1 l2 l3 l4 l5 l6 x23 hv
            · replace hv := ite_t hv c18
              refine y_aload_n E dX9_says_99 0 rfl ?_
              refine gf_X9_2 E hgo.1 hgo.2 wm_252 dX9_says_100 ?_
              refine y_iload E dX9_says_103 6 rfl ?_
              refine y_iconst (v := 1) E dX9_says_105 (by decide) ?_
              refine y_isub E dX9_says_106 ?_
              obtain ⟨hi, hv⟩ := hv
              refine y_iald E (Nat.lt_of_lt_of_le (show 37 < 38 by decide) (by decide)) (xc_stack (by decide) (by decide)) hi dX9_says_107 ?_
              refine y_ineg E dX9_says_108 ?_
              refine y_goto (tgt := 129) E dX9_says_109 (by decide) ?_
              obtain ⟨hi, hv⟩ := hv
              refine y_iast E (Nat.lt_of_lt_of_le (show 37 < 38 by decide) (by decide)) (fun _ => xc_stack (by decide) (by decide)) hi dX9_says_129 ?_
              refine y_nmH (fun u24 hu24 => ?_)
              replace hv := hv u24 hu24
              refine y_goto (tgt := 172) E dX9_says_130 (by decide) ?_
              obtain ⟨x25, hx25⟩ : ∃ z : Int32, z = l7 + 1 := ⟨_, rfl⟩
              replace hv := hv x25 hx25
              refine y_iinc (v := x25) (lv' := [(7, .int x25), (0, .ref (w.1 o)), (1, .int l1), (2, .int l2), (3, .int l3), (4, .int l4), (5, .int l5), (6, .int l6), (8, .int l8)]) E dX9_says_172 7 rfl (by rw [hx25]; rfl) (by decide) rfl ?_
              refine y_goto (tgt := 11) E dX9_says_175 (by decide) ?_
              refine y_lv (lv' := [(0, .ref (w.1 o)), (1, .int l1), (2, .int l2), (3, .int l3), (4, .int l4), (5, .int l5), (6, .int l6), (7, .int x25)]) [1, 2, 3, 4, 5, 6, 7, 0] rfl ?_
              exact ih11 u24 l1 l2 l3 l4 l5 l6 x25 hv
      intro σ l1 l2 l3 l4 l5 l6 l7 hv
      unfold VX9_says_L11 at hv
      refine y_iload E dX9_says_11 7 rfl ?_
      refine y_aload_n E dX9_says_13 0 rfl ?_
      obtain ⟨x3, hx3⟩ : ∃ z : Nat, z = 31 + 1 * (o - 19) := ⟨_, rfl⟩
      replace hv := hv x3 hx3
      have hgx3 : 31 ≤ x3 ∧ x3 < 37 := by omega
      refine gf_X9_1 (q := x3) E hgo.1 hgo.2 hx3.symm wm_248 dX9_says_14 ?_
      refine y_iload_n E dX9_says_17 1 rfl ?_
      refine y_iconst (v := 1) E dX9_says_18 (by decide) ?_
      refine y_iadd E dX9_says_19 ?_
      obtain ⟨hi, hv⟩ := hv
      refine y_iald E (Nat.lt_of_lt_of_le hgx3.2 (by decide)) (xc_starts hgx3.1 hgx3.2) hi dX9_says_20 ?_
      refine y_icmp_ge (tgt := 178) E dX9_says_21 (by decide) (fun c4 => ?_) (fun c4 => ?_)
      · replace hv := ite_t hv c4
        refine y_iload_n E dX9_says_178 1 rfl ?_
        refine y_if_ne (tgt := 186) E dX9_says_179 (by decide) (fun c5 => ?_) (fun c5 => ?_)
        · replace hv := ite_f hv c5
          refine y_iload_n E dX9_says_186 1 rfl ?_
          refine y_iconst (v := 1) E dX9_says_187 (by decide) ?_
          refine y_icmp_ne (tgt := 196) E dX9_says_188 (by decide) (fun c6 => ?_) (fun c6 => ?_)
          · replace hv := ite_f hv c6
            refine y_bipush (v := 9) E dX9_says_196 (by decide) ?_
            refine y_lv (lv' := [(0, .ref (w.1 o))]) [0] rfl ?_
            exact hb198 σ 9 hv
          · replace hv := ite_t hv c6
            refine y_bipush (v := 99) E dX9_says_191 (by decide) ?_
            refine y_goto (tgt := 198) E dX9_says_193 (by decide) ?_
            refine y_lv (lv' := [(0, .ref (w.1 o))]) [0] rfl ?_
            exact hb198 σ 99 hv
        · replace hv := ite_t hv c5
          refine y_iconst (v := 4) E dX9_says_182 (by decide) ?_
          refine y_goto (tgt := 198) E dX9_says_183 (by decide) ?_
          refine y_lv (lv' := [(0, .ref (w.1 o))]) [0] rfl ?_
          exact hb198 σ 4 hv
      · replace hv := ite_f hv c4
        refine y_aload_n E dX9_says_24 0 rfl ?_
        obtain ⟨x7, hx7⟩ : ∃ z : Nat, z = 25 + 1 * (o - 19) := ⟨_, rfl⟩
        replace hv := hv x7 hx7
        have hgx7 : 25 ≤ x7 ∧ x7 < 31 := by omega
        refine gf_X9_0 (q := x7) E hgo.1 hgo.2 hx7.symm wm_247 dX9_says_25 ?_
        refine y_iload E dX9_says_28 7 rfl ?_
        obtain ⟨hi, hv⟩ := hv
        refine y_iald E (Nat.lt_of_lt_of_le hgx7.2 (by decide)) (xc_codes hgx7.1 hgx7.2) hi dX9_says_30 ?_
        refine y_nmi (fun x8 hx8 => ?_)
        replace hv := hv x8 hx8
        refine y_istore (lv' := [(8, .int x8), (0, .ref (w.1 o)), (1, .int l1), (2, .int l2), (3, .int l3), (4, .int l4), (5, .int l5), (6, .int l6), (7, .int l7)]) E dX9_says_31 (by decide) rfl ?_
        refine y_iload E dX9_says_33 0 rfl ?_
        refine y_bipush (v := (-6)) E dX9_says_35 (by decide) ?_
        refine y_icmp_lt (tgt := 72) E dX9_says_37 (by decide) (fun c9 => ?_) (fun c9 => ?_)
        · replace hv := ite_t hv c9
          refine y_lv (lv' := [(0, .ref (w.1 o)), (1, .int l1), (2, .int l2), (3, .int l3), (4, .int l4), (5, .int l5), (6, .int l6), (7, .int l7), (8, .int x8)]) [1, 2, 3, 4, 5, 6, 7, 8, 0] rfl ?_
          exact hb72 σ l1 l2 l3 l4 l5 l6 l7 x8 hv
        · replace hv := ite_f hv c9
          refine y_iload E dX9_says_40 7 rfl ?_
          refine y_sipush (v := 160) E dX9_says_42 (by decide) ?_
          refine y_icmp_ge (tgt := 72) E dX9_says_45 (by decide) (fun c10 => ?_) (fun c10 => ?_)
          · replace hv := ite_t hv c10
            refine y_lv (lv' := [(0, .ref (w.1 o)), (1, .int l1), (2, .int l2), (3, .int l3), (4, .int l4), (5, .int l5), (6, .int l6), (7, .int l7), (8, .int x8)]) [1, 2, 3, 4, 5, 6, 7, 8, 0] rfl ?_
            exact hb72 σ l1 l2 l3 l4 l5 l6 l7 x8 hv
          · replace hv := ite_f hv c10
            refine y_aload_n E dX9_says_48 1 rfl ?_
            refine gf_X9_2 E hgo.1 hgo.2 wm_252 dX9_says_49 ?_
            refine y_iload E dX9_says_52 7 rfl ?_
            refine y_iload E dX9_says_54 0 rfl ?_
            refine y_iload_n E dX9_says_56 3 rfl ?_
            refine y_iload_n E dX9_says_57 4 rfl ?_
            refine y_iload E dX9_says_58 5 rfl ?_
            refine y_iload E dX9_says_60 6 rfl ?_
            refine y_calli E (y_runS E (rest := [.int l6, .ref (w.1 37)]) (kX9_leaf l w E.2.2.1 σ x8 l2 l3 l4 l5 _ hv) (y_cwS 5 E.1.2.2.2.2 wm_253 wm_254 wm_113 wm_255 (by decide +kernel) (yRm_le (by decide) (by decide))) rfl rfl (Nat.le_of_ble_eq_true rfl) dX9_says_62) (fun v11 u12 hk => ?_)
            clear hv
            have hv := hk
            clear hk
            obtain ⟨hi, hv⟩ := hv
            refine y_iast E (Nat.lt_of_lt_of_le (show 37 < 38 by decide) (by decide)) (fun _ => xc_stack (by decide) (by decide)) hi dX9_says_65 ?_
            refine y_nmH (fun u13 hu13 => ?_)
            replace hv := hv u13 hu13
            obtain ⟨x14, hx14⟩ : ∃ z : Int32, z = l6 + 1 := ⟨_, rfl⟩
            replace hv := hv x14 hx14
            refine y_iinc (v := x14) (lv' := [(6, .int x14), (8, .int x8), (0, .ref (w.1 o)), (1, .int l1), (2, .int l2), (3, .int l3), (4, .int l4), (5, .int l5), (7, .int l7)]) E dX9_says_66 7 rfl (by rw [hx14]; rfl) (by decide) rfl ?_
            refine y_goto (tgt := 172) E dX9_says_69 (by decide) ?_
            obtain ⟨x15, hx15⟩ : ∃ z : Int32, z = l7 + 1 := ⟨_, rfl⟩
            replace hv := hv x15 hx15
            refine y_iinc (v := x15) (lv' := [(7, .int x15), (6, .int x14), (8, .int x8), (0, .ref (w.1 o)), (1, .int l1), (2, .int l2), (3, .int l3), (4, .int l4), (5, .int l5)]) E dX9_says_172 8 rfl (by rw [hx15]; rfl) (by decide) rfl ?_
            refine y_goto (tgt := 11) E dX9_says_175 (by decide) ?_
            refine y_lv (lv' := [(0, .ref (w.1 o)), (1, .int l1), (2, .int l2), (3, .int l3), (4, .int l4), (5, .int l5), (6, .int x14), (7, .int x15)]) [3, 4, 5, 6, 7, 8, 1, 0] rfl ?_
            exact ih11 u13 l1 l2 l3 l4 l5 x14 x15 hv
  refine y_iconst (v := 0) E dX9_says_0 (by decide) ?_
  refine y_istore (lv' := [(6, .int 0), (0, .ref (w.1 o)), (1, .int a1), (2, .int a2), (3, .int a3), (4, .int a4), (5, .int a5)]) E dX9_says_1 (by decide) rfl ?_
  refine y_aload_n E dX9_says_3 1 rfl ?_
  obtain ⟨x1, hx1⟩ : ∃ z : Nat, z = 31 + 1 * (o - 19) := ⟨_, rfl⟩
  replace hv := hv x1 hx1
  have hgx1 : 31 ≤ x1 ∧ x1 < 37 := by omega
  refine gf_X9_1 (q := x1) E hgo.1 hgo.2 hx1.symm wm_248 dX9_says_4 ?_
  refine y_iload_n E dX9_says_7 2 rfl ?_
  obtain ⟨hi, hv⟩ := hv
  refine y_iald E (Nat.lt_of_lt_of_le hgx1.2 (by decide)) (xc_starts hgx1.1 hgx1.2) hi dX9_says_8 ?_
  refine y_nmi (fun x2 hx2 => ?_)
  replace hv := hv x2 hx2
  refine y_istore (lv' := [(7, .int x2), (6, .int 0), (0, .ref (w.1 o)), (1, .int a1), (2, .int a2), (3, .int a3), (4, .int a4), (5, .int a5)]) E dX9_says_9 (by decide) rfl ?_
  refine y_lv (lv' := [(0, .ref (w.1 o)), (1, .int a1), (2, .int a2), (3, .int a3), (4, .int a4), (5, .int a5), (6, .int 0), (7, .int x2)]) [2, 3, 4, 5, 6, 7, 1, 0] rfl ?_
  obtain ⟨n0, hv⟩ := hv
  exact hL11 n0 σ a1 a2 a3 a4 a5 0 x2 hv
theorem dX1_pass_0 : decode cX1_pass 0 = .ok (.aload_n 0, 1) := by decide +kernel
theorem dX1_pass_1 : decode cX1_pass 1 = .ok (.getfield 9, 3) := by decide +kernel
theorem dX1_pass_4 : decode cX1_pass 4 = .ok (.ifnull 17, 3) := by decide +kernel
theorem dX1_pass_7 : decode cX1_pass 7 = .ok (.aload_n 0, 1) := by decide +kernel
theorem dX1_pass_8 : decode cX1_pass 8 = .ok (.getfield 19, 3) := by decide +kernel
theorem dX1_pass_11 : decode cX1_pass 11 = .ok (.ifnull 10, 3) := by decide +kernel
theorem dX1_pass_14 : decode cX1_pass 14 = .ok (.aload_n 0, 1) := by decide +kernel
theorem dX1_pass_15 : decode cX1_pass 15 = .ok (.getfield 23, 3) := by decide +kernel
theorem dX1_pass_18 : decode cX1_pass 18 = .ok (.ifnonnull 4, 3) := by decide +kernel
theorem dX1_pass_22 : decode cX1_pass 22 = .ok (.aload_n 0, 1) := by decide +kernel
theorem dX1_pass_23 : decode cX1_pass 23 = .ok (.getfield 27, 3) := by decide +kernel
theorem dX1_pass_26 : decode cX1_pass 26 = .ok (.aload_n 0, 1) := by decide +kernel
theorem dX1_pass_27 : decode cX1_pass 27 = .ok (.getfield 31, 3) := by decide +kernel
theorem dX1_pass_30 : decode cX1_pass 30 = .ok (.invokestatic 34, 3) := by decide +kernel
theorem dX1_pass_33 : decode cX1_pass 33 = .ok (.ifCond .eq 9, 3) := by decide +kernel
theorem dX1_pass_36 : decode cX1_pass 36 = .ok (.aload_n 0, 1) := by decide +kernel
theorem dX1_pass_37 : decode cX1_pass 37 = .ok (.iconst 4, 1) := by decide +kernel
theorem dX1_pass_38 : decode cX1_pass 38 = .ok (.putfield 38, 3) := by decide +kernel
theorem dX1_pass_41 : decode cX1_pass 41 = .ok (.return_, 1) := by decide +kernel
theorem dX1_pass_42 : decode cX1_pass 42 = .ok (.aload_n 0, 1) := by decide +kernel
theorem dX1_pass_43 : decode cX1_pass 43 = .ok (.getfield 9, 3) := by decide +kernel
theorem dX1_pass_46 : decode cX1_pass 46 = .ok (.getfield 41, 3) := by decide +kernel
theorem dX1_pass_49 : decode cX1_pass 49 = .ok (.aload_n 0, 1) := by decide +kernel
theorem dX1_pass_50 : decode cX1_pass 50 = .ok (.getfield 31, 3) := by decide +kernel
theorem dX1_pass_53 : decode cX1_pass 53 = .ok (.invokestatic 34, 3) := by decide +kernel
theorem dX1_pass_56 : decode cX1_pass 56 = .ok (.ifCond .eq 39, 3) := by decide +kernel
theorem dX1_pass_59 : decode cX1_pass 59 = .ok (.aload_n 0, 1) := by decide +kernel
theorem dX1_pass_60 : decode cX1_pass 60 = .ok (.aload_n 0, 1) := by decide +kernel
theorem dX1_pass_61 : decode cX1_pass 61 = .ok (.getfield 23, 3) := by decide +kernel
theorem dX1_pass_64 : decode cX1_pass 64 = .ok (.aload_n 0, 1) := by decide +kernel
theorem dX1_pass_65 : decode cX1_pass 65 = .ok (.getfield 19, 3) := by decide +kernel
theorem dX1_pass_68 : decode cX1_pass 68 = .ok (.iconst 0, 1) := by decide +kernel
theorem dX1_pass_69 : decode cX1_pass 69 = .ok (.aload_n 0, 1) := by decide +kernel
theorem dX1_pass_70 : decode cX1_pass 70 = .ok (.getfield 31, 3) := by decide +kernel
theorem dX1_pass_73 : decode cX1_pass 73 = .ok (.iload_n 1, 1) := by decide +kernel
theorem dX1_pass_74 : decode cX1_pass 74 = .ok (.aload_n 0, 1) := by decide +kernel
theorem dX1_pass_75 : decode cX1_pass 75 = .ok (.getfield 46, 3) := by decide +kernel
theorem dX1_pass_78 : decode cX1_pass 78 = .ok (.aload_n 0, 1) := by decide +kernel
theorem dX1_pass_79 : decode cX1_pass 79 = .ok (.getfield 49, 3) := by decide +kernel
theorem dX1_pass_82 : decode cX1_pass 82 = .ok (.invokevirtual 52, 3) := by decide +kernel
theorem dX1_pass_85 : decode cX1_pass 85 = .ok (.aload_n 0, 1) := by decide +kernel
theorem dX1_pass_86 : decode cX1_pass 86 = .ok (.getfield 38, 3) := by decide +kernel
theorem dX1_pass_89 : decode cX1_pass 89 = .ok (.invokevirtual 58, 3) := by decide +kernel
theorem dX1_pass_92 : decode cX1_pass 92 = .ok (.putfield 38, 3) := by decide +kernel
theorem dX1_pass_95 : decode cX1_pass 95 = .ok (.aload_n 0, 1) := by decide +kernel
theorem dX1_pass_96 : decode cX1_pass 96 = .ok (.getfield 38, 3) := by decide +kernel
theorem dX1_pass_99 : decode cX1_pass 99 = .ok (.iconst 4, 1) := by decide +kernel
theorem dX1_pass_100 : decode cX1_pass 100 = .ok (.if_icmp .eq 18, 3) := by decide +kernel
theorem dX1_pass_103 : decode cX1_pass 103 = .ok (.aload_n 0, 1) := by decide +kernel
theorem dX1_pass_104 : decode cX1_pass 104 = .ok (.getfield 23, 3) := by decide +kernel
theorem dX1_pass_107 : decode cX1_pass 107 = .ok (.iload_n 1, 1) := by decide +kernel
theorem dX1_pass_108 : decode cX1_pass 108 = .ok (.aload_n 0, 1) := by decide +kernel
theorem dX1_pass_109 : decode cX1_pass 109 = .ok (.getfield 49, 3) := by decide +kernel
theorem dX1_pass_112 : decode cX1_pass 112 = .ok (.invokevirtual 64, 3) := by decide +kernel
theorem dX1_pass_115 : decode cX1_pass 115 = .ok (.ifCond .ne 4, 3) := by decide +kernel
theorem dX1_pass_118 : decode cX1_pass 118 = .ok (.return_, 1) := by decide +kernel
theorem dX1_pass_119 : decode cX1_pass 119 = .ok (.aload_n 0, 1) := by decide +kernel
theorem dX1_pass_120 : decode cX1_pass 120 = .ok (.getfield 9, 3) := by decide +kernel
theorem dX1_pass_123 : decode cX1_pass 123 = .ok (.aload_n 0, 1) := by decide +kernel
theorem dX1_pass_124 : decode cX1_pass 124 = .ok (.getfield 31, 3) := by decide +kernel
theorem dX1_pass_127 : decode cX1_pass 127 = .ok (.aload_n 0, 1) := by decide +kernel
theorem dX1_pass_128 : decode cX1_pass 128 = .ok (.getfield 38, 3) := by decide +kernel
theorem dX1_pass_131 : decode cX1_pass 131 = .ok (.invokevirtual 67, 3) := by decide +kernel
theorem dX1_pass_134 : decode cX1_pass 134 = .ok (.istore_n 2, 1) := by decide +kernel
theorem dX1_pass_135 : decode cX1_pass 135 = .ok (.iload_n 2, 1) := by decide +kernel
theorem dX1_pass_136 : decode cX1_pass 136 = .ok (.ifCond .ge 21, 3) := by decide +kernel
theorem dX1_pass_139 : decode cX1_pass 139 = .ok (.aload_n 0, 1) := by decide +kernel
theorem dX1_pass_140 : decode cX1_pass 140 = .ok (.aload_n 0, 1) := by decide +kernel
theorem dX1_pass_141 : decode cX1_pass 141 = .ok (.getfield 23, 3) := by decide +kernel
theorem dX1_pass_144 : decode cX1_pass 144 = .ok (.aload_n 0, 1) := by decide +kernel
theorem dX1_pass_145 : decode cX1_pass 145 = .ok (.getfield 38, 3) := by decide +kernel
theorem dX1_pass_148 : decode cX1_pass 148 = .ok (.invokevirtual 70, 3) := by decide +kernel
theorem dX1_pass_151 : decode cX1_pass 151 = .ok (.putfield 38, 3) := by decide +kernel
theorem dX1_pass_154 : decode cX1_pass 154 = .ok (.goto 8, 3) := by decide +kernel
theorem dX1_pass_157 : decode cX1_pass 157 = .ok (.aload_n 0, 1) := by decide +kernel
theorem dX1_pass_158 : decode cX1_pass 158 = .ok (.iload_n 2, 1) := by decide +kernel
theorem dX1_pass_159 : decode cX1_pass 159 = .ok (.putfield 31, 3) := by decide +kernel
theorem dX1_pass_162 : decode cX1_pass 162 = .ok (.return_, 1) := by decide +kernel
set_option maxRecDepth 100000 in
set_option maxHeartbeats 4000000 in
theorem kX1_pass (l : Launch) (w : wT) (hw : yOk w 55) (σ : Hp) (a1 : Int32) (K : Hp → Prop) (hv : VX1_pass K σ a1) : yMet l w xcf 55 yX1_pass cX1_pass 3 none 3 [.ref (w.1 49), .int a1] σ (yQv w xcf 55 K) := by
  unfold VX1_pass at hv
  refine y_start (lv0 := [(0, .ref (w.1 49)), (1, .int a1)]) (by decide +kernel) (own := RX1) rfl hw (Nat.le_of_ble_eq_true rfl) rfl (fun p e s m below meth c A E => ?_)
  have hb95 : ∀ (σ : Hp) (l1 : Int32), VX1_pass_b95 K σ l1 → YY p l e (yRm 3) s m [.ref (w.1 49), .int a1].toArray below meth c w xcf 55 A (MQ below (yQv w xcf 55 K A) [.ref (w.1 49), .int a1].toArray s 0 0 A) 3 σ 95 [(0, .ref (w.1 49)), (1, .int l1)] [] := by
    intro σ l1 hv
    unfold VX1_pass_b95 at hv
    refine y_aload_n E dX1_pass_95 0 rfl ?_
    refine gf_X1_7 E (by decide) (by decide) wm_109 dX1_pass_96 ?_
    refine y_iconst (v := 4) E dX1_pass_99 (by decide) ?_
    refine y_icmp_eq (tgt := 118) E dX1_pass_100 (by decide) (fun c17 => ?_) (fun c17 => ?_)
    · replace hv := ite_t hv c17
      exact y_vret E dX1_pass_118 hv
    · replace hv := ite_f hv c17
      refine y_aload_n E dX1_pass_103 0 rfl ?_
      obtain ⟨hnn, hv⟩ := hv
      refine gf_X1_2 E (by decide) (by decide) hnn wm_102 dX1_pass_104 ?_
      refine y_nmr (fun x18 hx18 => ?_)
      obtain ⟨hgx18, hv⟩ := hv x18 hx18
      refine y_iload_n E dX1_pass_107 1 rfl ?_
      refine y_aload_n E dX1_pass_108 0 rfl ?_
      refine gf_X1_5 E (by decide) (by decide) wm_107 dX1_pass_109 ?_
      refine y_calli E (rP_moves E (by decide) hv wm_118 (Nat.le_of_ble_eq_true rfl) dX1_pass_112) (fun v19 u20 hk => ?_)
      clear hv
      have hv := hk
      clear hk
      refine y_if_ne (tgt := 119) E dX1_pass_115 (by decide) (fun c21 => ?_) (fun c21 => ?_)
      · replace hv := ite_f hv c21
        refine y_aload_n E dX1_pass_119 0 rfl ?_
        refine gf_X1_0 E (by decide) (by decide) wm_100 dX1_pass_120 ?_
        refine y_aload_n E dX1_pass_123 0 rfl ?_
        refine gf_X1_6 E (by decide) (by decide) wm_104 dX1_pass_124 ?_
        refine y_aload_n E dX1_pass_127 0 rfl ?_
        refine gf_X1_7 E (by decide) (by decide) wm_109 dX1_pass_128 ?_
        refine y_calli E (y_runV E (rest := []) (kX3_beyond l w E.2.2.1 u20 1 (u20 49 6) (u20 49 7) _ hv) (y_cwV 2 E.1.2.2.2.2 wm_119 wm_121 wm_122 wm_123 wm_124 (by decide +kernel) (yRm_le (by decide) (by decide))) (Nat.lt_of_lt_of_le (show 1 < 3 by decide) (by decide)) (xc_X3 (by decide) (by decide)) rfl rfl rfl (Nat.le_of_ble_eq_true rfl) dX1_pass_131) (fun v22 u23 hk => ?_)
        clear hv
        have hv := hk
        clear hk
        refine y_istore_n (lv' := [(2, .int v22), (0, .ref (w.1 49)), (1, .int l1)]) E dX1_pass_134 (by decide) rfl ?_
        refine y_iload_n E dX1_pass_135 0 rfl ?_
        refine y_if_ge (tgt := 157) E dX1_pass_136 (by decide) (fun c24 => ?_) (fun c24 => ?_)
        · replace hv := ite_t hv c24
          refine y_aload_n E dX1_pass_157 1 rfl ?_
          refine y_iload_n E dX1_pass_158 0 rfl ?_
          refine pf_X1_6 E (by decide) (by decide) wm_104 dX1_pass_159 ?_
          refine y_nmH (fun u25 hu25 => ?_)
          replace hv := hv u25 hu25
          exact y_vret E dX1_pass_162 hv
        · replace hv := ite_f hv c24
          refine y_aload_n E dX1_pass_139 1 rfl ?_
          refine y_aload_n E dX1_pass_140 1 rfl ?_
          obtain ⟨hnn, hv⟩ := hv
          refine gf_X1_2 E (by decide) (by decide) hnn wm_102 dX1_pass_141 ?_
          refine y_nmr (fun x26 hx26 => ?_)
          obtain ⟨hgx26, hv⟩ := hv x26 hx26
          refine y_aload_n E dX1_pass_144 1 rfl ?_
          refine gf_X1_7 E (by decide) (by decide) wm_109 dX1_pass_145 ?_
          refine y_calli E (rP_touching E (by decide) hv wm_120 (Nat.le_of_ble_eq_true rfl) dX1_pass_148) (fun v27 u28 hk => ?_)
          clear hv
          have hv := hk
          clear hk
          refine pf_X1_7 E (by decide) (by decide) wm_109 dX1_pass_151 ?_
          refine y_nmH (fun u29 hu29 => ?_)
          replace hv := hv u29 hu29
          refine y_goto (tgt := 162) E dX1_pass_154 (by decide) ?_
          exact y_vret E dX1_pass_162 hv
      · replace hv := ite_t hv c21
        exact y_vret E dX1_pass_118 hv
  refine y_aload_n E dX1_pass_0 0 rfl ?_
  refine gf_X1_0 E (by decide) (by decide) wm_100 dX1_pass_1 ?_
  refine y_ifnull E dX1_pass_4 ?_
  refine y_aload_n E dX1_pass_7 0 rfl ?_
  obtain ⟨hnn, hv⟩ := hv
  refine gf_X1_1 E (by decide) (by decide) hnn wm_101 dX1_pass_8 ?_
  refine y_nmr (fun x1 hx1 => ?_)
  obtain ⟨hgx1, hv⟩ := hv x1 hx1
  refine y_ifnull E dX1_pass_11 ?_
  refine y_aload_n E dX1_pass_14 0 rfl ?_
  obtain ⟨hnn, hv⟩ := hv
  refine gf_X1_2 E (by decide) (by decide) hnn wm_102 dX1_pass_15 ?_
  refine y_nmr (fun x2 hx2 => ?_)
  obtain ⟨hgx2, hv⟩ := hv x2 hx2
  refine y_ifnonnull (tgt := 22) E dX1_pass_18 (by decide) ?_
  refine y_aload_n E dX1_pass_22 0 rfl ?_
  refine gf_X1_3 E (by decide) (by decide) wm_103 dX1_pass_23 ?_
  refine y_aload_n E dX1_pass_26 0 rfl ?_
  refine gf_X1_6 E (by decide) (by decide) wm_104 dX1_pass_27 ?_
  refine y_calli E (y_runSN E (rest := []) (kX11_has l w E.2.2.1 σ (σ 49 3) (σ 49 6) _ hv) (y_cwSN (own := RX1) (host := RX11) 2 E.1.2.2.2.2 (nw_15 E.2.1.2.1.1) wm_115 wm_116 wm_117 (by decide +kernel) (yRm_le (by decide) (by decide))) rfl rfl (Nat.le_of_ble_eq_true rfl) dX1_pass_30) (fun v3 u4 hk => ?_)
  clear hv
  have hv := hk
  clear hk
  refine y_if_eq (tgt := 42) E dX1_pass_33 (by decide) (fun c5 => ?_) (fun c5 => ?_)
  · replace hv := ite_t hv c5
    refine y_aload_n E dX1_pass_42 0 rfl ?_
    refine gf_X1_0 E (by decide) (by decide) wm_100 dX1_pass_43 ?_
    refine gf_X3_2 E (by decide) (by decide) wm_105 dX1_pass_46 ?_
    refine y_aload_n E dX1_pass_49 0 rfl ?_
    refine gf_X1_6 E (by decide) (by decide) wm_104 dX1_pass_50 ?_
    refine y_calli E (y_runSN E (rest := []) (kX11_has l w E.2.2.1 u4 (u4 1 2) (u4 49 6) _ hv) (y_cwSN (own := RX1) (host := RX11) 2 E.1.2.2.2.2 (nw_15 E.2.1.2.1.1) wm_115 wm_116 wm_117 (by decide +kernel) (yRm_le (by decide) (by decide))) rfl rfl (Nat.le_of_ble_eq_true rfl) dX1_pass_53) (fun v6 u7 hk => ?_)
    clear hv
    have hv := hk
    clear hk
    refine y_if_eq (tgt := 95) E dX1_pass_56 (by decide) (fun c8 => ?_) (fun c8 => ?_)
    · replace hv := ite_t hv c8
      exact hb95 u7 a1 hv
    · replace hv := ite_f hv c8
      refine y_aload_n E dX1_pass_59 0 rfl ?_
      refine y_aload_n E dX1_pass_60 0 rfl ?_
      obtain ⟨hnn, hv⟩ := hv
      refine gf_X1_2 E (by decide) (by decide) hnn wm_102 dX1_pass_61 ?_
      refine y_nmr (fun x9 hx9 => ?_)
      obtain ⟨hgx9, hv⟩ := hv x9 hx9
      refine y_aload_n E dX1_pass_64 0 rfl ?_
      obtain ⟨hnn, hv⟩ := hv
      refine gf_X1_1 E (by decide) (by decide) hnn wm_101 dX1_pass_65 ?_
      refine y_nmr (fun x10 hx10 => ?_)
      obtain ⟨hgx10, hv⟩ := hv x10 hx10
      refine y_iconst (v := 0) E dX1_pass_68 (by decide) ?_
      refine y_aload_n E dX1_pass_69 0 rfl ?_
      refine gf_X1_6 E (by decide) (by decide) wm_104 dX1_pass_70 ?_
      refine y_iload_n E dX1_pass_73 1 rfl ?_
      refine y_aload_n E dX1_pass_74 0 rfl ?_
      refine gf_X1_4 E (by decide) (by decide) wm_106 dX1_pass_75 ?_
      refine y_aload_n E dX1_pass_78 0 rfl ?_
      refine gf_X1_5 E (by decide) (by decide) wm_107 dX1_pass_79 ?_
      refine y_calli E (y_runV E (rest := [.ref (w.1 x9), .ref (w.1 49)]) (kX9_says l w E.2.2.1 u7 x10 0 (u7 49 6) a1 (u7 49 4) (u7 49 5) _ hv) (y_cwV 5 E.1.2.2.2.2 wm_108 wm_111 wm_112 wm_113 wm_114 (by decide +kernel) (yRm_le (by decide) (by decide))) (Nat.lt_of_lt_of_le hgx10.2 (by decide)) (xc_X9 hgx10.1 hgx10.2) rfl rfl rfl (Nat.le_of_ble_eq_true rfl) dX1_pass_82) (fun v11 u12 hk => ?_)
      clear hv
      have hv := hk
      clear hk
      refine y_aload_n E dX1_pass_85 0 rfl ?_
      refine gf_X1_7 E (by decide) (by decide) wm_109 dX1_pass_86 ?_
      refine y_calli E (rP_blown E (by decide) hv wm_110 (Nat.le_of_ble_eq_true rfl) dX1_pass_89) (fun v13 u14 hk => ?_)
      clear hv
      have hv := hk
      clear hk
      refine pf_X1_7 E (by decide) (by decide) wm_109 dX1_pass_92 ?_
      refine y_nmH (fun u15 hu15 => ?_)
      replace hv := hv u15 hu15
      exact hb95 u15 a1 hv
  · replace hv := ite_f hv c5
    refine y_aload_n E dX1_pass_36 0 rfl ?_
    refine y_iconst (v := 4) E dX1_pass_37 (by decide) ?_
    refine pf_X1_7 E (by decide) (by decide) wm_109 dX1_pass_38 ?_
    refine y_nmH (fun u16 hu16 => ?_)
    replace hv := hv u16 hu16
    exact y_vret E dX1_pass_41 hv
theorem dX1_passAll_0 : decode cX1_passAll 0 = .ok (.iconst 0, 1) := by decide +kernel
theorem dX1_passAll_1 : decode cX1_passAll 1 = .ok (.istore_n 3, 1) := by decide +kernel
theorem dX1_passAll_2 : decode cX1_passAll 2 = .ok (.iload_n 3, 1) := by decide +kernel
theorem dX1_passAll_3 : decode cX1_passAll 3 = .ok (.iload_n 2, 1) := by decide +kernel
theorem dX1_passAll_4 : decode cX1_passAll 4 = .ok (.if_icmp .ge 16, 3) := by decide +kernel
theorem dX1_passAll_7 : decode cX1_passAll 7 = .ok (.aload_n 0, 1) := by decide +kernel
theorem dX1_passAll_8 : decode cX1_passAll 8 = .ok (.iload_n 1, 1) := by decide +kernel
theorem dX1_passAll_9 : decode cX1_passAll 9 = .ok (.iload_n 3, 1) := by decide +kernel
theorem dX1_passAll_10 : decode cX1_passAll 10 = .ok (.iadd, 1) := by decide +kernel
theorem dX1_passAll_11 : decode cX1_passAll 11 = .ok (.invokevirtual 15, 3) := by decide +kernel
theorem dX1_passAll_14 : decode cX1_passAll 14 = .ok (.iinc 3 1, 3) := by decide +kernel
theorem dX1_passAll_17 : decode cX1_passAll 17 = .ok (.goto (-15), 3) := by decide +kernel
theorem dX1_passAll_20 : decode cX1_passAll 20 = .ok (.return_, 1) := by decide +kernel
set_option maxRecDepth 100000 in
set_option maxHeartbeats 4000000 in
theorem kX1_passAll (l : Launch) (w : wT) (hw : yOk w 55) (σ : Hp) (a1 : Int32) (a2 : Int32) (K : Hp → Prop) (hv : VX1_passAll K σ a1 a2) : yMet l w xcf 55 yX1_passAll cX1_passAll 4 none 4 [.ref (w.1 49), .int a1, .int a2] σ (yQv w xcf 55 K) := by
  unfold VX1_passAll at hv
  refine y_start (lv0 := [(0, .ref (w.1 49)), (1, .int a1), (2, .int a2)]) (by decide +kernel) (own := RX1) rfl hw (Nat.le_of_ble_eq_true rfl) rfl (fun p e s m below meth c A E => ?_)
  have hL2 : ∀ (n2 : Nat) (σ : Hp) (l1 : Int32) (l2 : Int32) (l3 : Int32), VX1_passAll_L2 K n2 σ l1 l2 l3 → YY p l e (yRm 4) s m [.ref (w.1 49), .int a1, .int a2].toArray below meth c w xcf 55 A (MQ below (yQv w xcf 55 K A) [.ref (w.1 49), .int a1, .int a2].toArray s 0 0 A) 4 σ 2 [(0, .ref (w.1 49)), (1, .int l1), (2, .int l2), (3, .int l3)] [] := by
    intro n2
    induction n2 with
    | zero => exact fun _ _ _ _ hv => (by unfold VX1_passAll_L2 at hv; exact hv.elim)
    | succ n2 ih2 =>
      intro σ l1 l2 l3 hv
      unfold VX1_passAll_L2 at hv
      refine y_iload_n E dX1_passAll_2 3 rfl ?_
      refine y_iload_n E dX1_passAll_3 2 rfl ?_
      refine y_icmp_ge (tgt := 20) E dX1_passAll_4 (by decide) (fun c1 => ?_) (fun c1 => ?_)
      · replace hv := ite_t hv c1
        exact y_vret E dX1_passAll_20 hv
      · replace hv := ite_f hv c1
        refine y_aload_n E dX1_passAll_7 0 rfl ?_
        refine y_iload_n E dX1_passAll_8 1 rfl ?_
        refine y_iload_n E dX1_passAll_9 3 rfl ?_
        refine y_iadd E dX1_passAll_10 ?_
        refine y_callv E (y_runV E (rest := []) (kX1_pass l w E.2.2.1 σ (l1 + l3) _ hv) (y_cwV 1 E.1.2.2.2.2 wm_95 wm_96 wm_97 wm_98 wm_99 (by decide +kernel) (yRm_le (by decide) (by decide))) (Nat.lt_of_lt_of_le (show 49 < 50 by decide) (by decide)) (xc_X1 (by decide) (by decide)) rfl rfl rfl (Nat.le_of_ble_eq_true rfl) dX1_passAll_11) (fun u3 hk => ?_)
        clear hv
        have hv := hk
        clear hk
        obtain ⟨x4, hx4⟩ : ∃ z : Int32, z = l3 + 1 := ⟨_, rfl⟩
        replace hv := hv x4 hx4
        refine y_iinc (v := x4) (lv' := [(3, .int x4), (0, .ref (w.1 49)), (1, .int l1), (2, .int l2)]) E dX1_passAll_14 3 rfl (by rw [hx4]; rfl) (by decide) rfl ?_
        refine y_goto (tgt := 2) E dX1_passAll_17 (by decide) ?_
        refine y_lv (lv' := [(0, .ref (w.1 49)), (1, .int l1), (2, .int l2), (3, .int x4)]) [1, 2, 3, 0] rfl ?_
        exact ih2 u3 l1 l2 x4 hv
  refine y_iconst (v := 0) E dX1_passAll_0 (by decide) ?_
  refine y_istore_n (lv' := [(3, .int 0), (0, .ref (w.1 49)), (1, .int a1), (2, .int a2)]) E dX1_passAll_1 (by decide) rfl ?_
  refine y_lv (lv' := [(0, .ref (w.1 49)), (1, .int a1), (2, .int a2), (3, .int 0)]) [1, 2, 3, 0] rfl ?_
  obtain ⟨n0, hv⟩ := hv
  exact hL2 n0 σ a1 a2 0 hv
theorem dX3_become_0 : decode cX3_become 0 = .ok (.aload_n 0, 1) := by decide +kernel
theorem dX3_become_1 : decode cX3_become 1 = .ok (.aload_n 1, 1) := by decide +kernel
theorem dX3_become_2 : decode cX3_become 2 = .ok (.getfield 24, 3) := by decide +kernel
theorem dX3_become_5 : decode cX3_become 5 = .ok (.putfield 24, 3) := by decide +kernel
theorem dX3_become_8 : decode cX3_become 8 = .ok (.aload_n 0, 1) := by decide +kernel
theorem dX3_become_9 : decode cX3_become 9 = .ok (.aload_n 1, 1) := by decide +kernel
theorem dX3_become_10 : decode cX3_become 10 = .ok (.getfield 28, 3) := by decide +kernel
theorem dX3_become_13 : decode cX3_become 13 = .ok (.putfield 28, 3) := by decide +kernel
theorem dX3_become_16 : decode cX3_become 16 = .ok (.aload_n 0, 1) := by decide +kernel
theorem dX3_become_17 : decode cX3_become 17 = .ok (.aload_n 1, 1) := by decide +kernel
theorem dX3_become_18 : decode cX3_become 18 = .ok (.getfield 31, 3) := by decide +kernel
theorem dX3_become_21 : decode cX3_become 21 = .ok (.putfield 31, 3) := by decide +kernel
theorem dX3_become_24 : decode cX3_become 24 = .ok (.aload_n 0, 1) := by decide +kernel
theorem dX3_become_25 : decode cX3_become 25 = .ok (.aload_n 1, 1) := by decide +kernel
theorem dX3_become_26 : decode cX3_become 26 = .ok (.getfield 34, 3) := by decide +kernel
theorem dX3_become_29 : decode cX3_become 29 = .ok (.putfield 34, 3) := by decide +kernel
theorem dX3_become_32 : decode cX3_become 32 = .ok (.aload_n 0, 1) := by decide +kernel
theorem dX3_become_33 : decode cX3_become 33 = .ok (.aload_n 1, 1) := by decide +kernel
theorem dX3_become_34 : decode cX3_become 34 = .ok (.getfield 37, 3) := by decide +kernel
theorem dX3_become_37 : decode cX3_become 37 = .ok (.putfield 37, 3) := by decide +kernel
theorem dX3_become_40 : decode cX3_become 40 = .ok (.aload_n 0, 1) := by decide +kernel
theorem dX3_become_41 : decode cX3_become 41 = .ok (.aload_n 1, 1) := by decide +kernel
theorem dX3_become_42 : decode cX3_become 42 = .ok (.getfield 40, 3) := by decide +kernel
theorem dX3_become_45 : decode cX3_become 45 = .ok (.putfield 40, 3) := by decide +kernel
theorem dX3_become_48 : decode cX3_become 48 = .ok (.aload_n 1, 1) := by decide +kernel
theorem dX3_become_49 : decode cX3_become 49 = .ok (.getfield 9, 3) := by decide +kernel
theorem dX3_become_52 : decode cX3_become 52 = .ok (.iconst 0, 1) := by decide +kernel
theorem dX3_become_53 : decode cX3_become 53 = .ok (.aload_n 0, 1) := by decide +kernel
theorem dX3_become_54 : decode cX3_become 54 = .ok (.getfield 9, 3) := by decide +kernel
theorem dX3_become_57 : decode cX3_become 57 = .ok (.iconst 0, 1) := by decide +kernel
theorem dX3_become_58 : decode cX3_become 58 = .ok (.iconst 5, 1) := by decide +kernel
theorem dX3_become_59 : decode cX3_become 59 = .ok (.invokestatic 43, 3) := by decide +kernel
theorem dX3_become_62 : decode cX3_become 62 = .ok (.aload_n 1, 1) := by decide +kernel
theorem dX3_become_63 : decode cX3_become 63 = .ok (.getfield 15, 3) := by decide +kernel
theorem dX3_become_66 : decode cX3_become 66 = .ok (.iconst 0, 1) := by decide +kernel
theorem dX3_become_67 : decode cX3_become 67 = .ok (.aload_n 0, 1) := by decide +kernel
theorem dX3_become_68 : decode cX3_become 68 = .ok (.getfield 15, 3) := by decide +kernel
theorem dX3_become_71 : decode cX3_become 71 = .ok (.iconst 0, 1) := by decide +kernel
theorem dX3_become_72 : decode cX3_become 72 = .ok (.iconst 5, 1) := by decide +kernel
theorem dX3_become_73 : decode cX3_become 73 = .ok (.invokestatic 43, 3) := by decide +kernel
theorem dX3_become_76 : decode cX3_become 76 = .ok (.aload_n 1, 1) := by decide +kernel
theorem dX3_become_77 : decode cX3_become 77 = .ok (.getfield 18, 3) := by decide +kernel
theorem dX3_become_80 : decode cX3_become 80 = .ok (.iconst 0, 1) := by decide +kernel
theorem dX3_become_81 : decode cX3_become 81 = .ok (.aload_n 0, 1) := by decide +kernel
theorem dX3_become_82 : decode cX3_become 82 = .ok (.getfield 18, 3) := by decide +kernel
theorem dX3_become_85 : decode cX3_become 85 = .ok (.iconst 0, 1) := by decide +kernel
theorem dX3_become_86 : decode cX3_become 86 = .ok (.iconst 5, 1) := by decide +kernel
theorem dX3_become_87 : decode cX3_become 87 = .ok (.invokestatic 43, 3) := by decide +kernel
theorem dX3_become_90 : decode cX3_become 90 = .ok (.aload_n 1, 1) := by decide +kernel
theorem dX3_become_91 : decode cX3_become 91 = .ok (.getfield 21, 3) := by decide +kernel
theorem dX3_become_94 : decode cX3_become 94 = .ok (.iconst 0, 1) := by decide +kernel
theorem dX3_become_95 : decode cX3_become 95 = .ok (.aload_n 0, 1) := by decide +kernel
theorem dX3_become_96 : decode cX3_become 96 = .ok (.getfield 21, 3) := by decide +kernel
theorem dX3_become_99 : decode cX3_become 99 = .ok (.iconst 0, 1) := by decide +kernel
theorem dX3_become_100 : decode cX3_become 100 = .ok (.iconst 5, 1) := by decide +kernel
theorem dX3_become_101 : decode cX3_become 101 = .ok (.invokestatic 43, 3) := by decide +kernel
theorem dX3_become_104 : decode cX3_become 104 = .ok (.return_, 1) := by decide +kernel
set_option maxRecDepth 100000 in
set_option maxHeartbeats 4000000 in
theorem kX3_become (l : Launch) (w : wT) (hw : yOk w 55) (σ : Hp) (o : Nat) (a1 : Nat) (K : Hp → Prop) (hv : VX3_become K σ o a1) : yMet l w xcf 55 yX3_become cX3_become 2 none 1 [.ref (w.1 o), .ref (w.1 a1)] σ (yQv w xcf 55 K) := by
  unfold VX3_become at hv
  refine y_start (lv0 := [(0, .ref (w.1 o)), (1, .ref (w.1 a1))]) (by decide +kernel) (own := RX3) rfl hw (Nat.le_of_ble_eq_true rfl) rfl (fun p e s m below meth c A E => ?_)
  obtain ⟨hgo, hv⟩ := hv
  obtain ⟨hga1, hv⟩ := hv
  refine y_aload_n E dX3_become_0 0 rfl ?_
  refine y_aload_n E dX3_become_1 1 rfl ?_
  refine gf_X3_0 E hga1.1 hga1.2 wm_132 dX3_become_2 ?_
  refine pf_X3_0 E hgo.1 hgo.2 wm_132 dX3_become_5 ?_
  refine y_nmH (fun u1 hu1 => ?_)
  replace hv := hv u1 hu1
  refine y_aload_n E dX3_become_8 0 rfl ?_
  refine y_aload_n E dX3_become_9 1 rfl ?_
  refine gf_X3_1 E hga1.1 hga1.2 wm_133 dX3_become_10 ?_
  refine pf_X3_1 E hgo.1 hgo.2 wm_133 dX3_become_13 ?_
  refine y_nmH (fun u2 hu2 => ?_)
  replace hv := hv u2 hu2
  refine y_aload_n E dX3_become_16 0 rfl ?_
  refine y_aload_n E dX3_become_17 1 rfl ?_
  refine gf_X3_2 E hga1.1 hga1.2 wm_134 dX3_become_18 ?_
  refine pf_X3_2 E hgo.1 hgo.2 wm_134 dX3_become_21 ?_
  refine y_nmH (fun u3 hu3 => ?_)
  replace hv := hv u3 hu3
  refine y_aload_n E dX3_become_24 0 rfl ?_
  refine y_aload_n E dX3_become_25 1 rfl ?_
  refine gf_X3_3 E hga1.1 hga1.2 wm_135 dX3_become_26 ?_
  refine pf_X3_3 E hgo.1 hgo.2 wm_135 dX3_become_29 ?_
  refine y_nmH (fun u4 hu4 => ?_)
  replace hv := hv u4 hu4
  refine y_aload_n E dX3_become_32 0 rfl ?_
  refine y_aload_n E dX3_become_33 1 rfl ?_
  refine gf_X3_4 E hga1.1 hga1.2 wm_136 dX3_become_34 ?_
  refine pf_X3_4 E hgo.1 hgo.2 wm_136 dX3_become_37 ?_
  refine y_nmH (fun u5 hu5 => ?_)
  replace hv := hv u5 hu5
  refine y_aload_n E dX3_become_40 0 rfl ?_
  refine y_aload_n E dX3_become_41 1 rfl ?_
  refine gf_X3_5 E hga1.1 hga1.2 wm_137 dX3_become_42 ?_
  refine pf_X3_5 E hgo.1 hgo.2 wm_137 dX3_become_45 ?_
  refine y_nmH (fun u6 hu6 => ?_)
  replace hv := hv u6 hu6
  refine y_aload_n E dX3_become_48 1 rfl ?_
  obtain ⟨x7, hx7⟩ : ∃ z : Nat, z = 3 + 4 * (a1 - 1) := ⟨_, rfl⟩
  replace hv := hv x7 hx7
  have hgx7 : 3 ≤ x7 ∧ x7 < 11 := by omega
  refine gf_X3_6 (q := x7) E hga1.1 hga1.2 hx7.symm wm_138 dX3_become_49 ?_
  refine y_iconst (v := 0) E dX3_become_52 (by decide) ?_
  refine y_aload_n E dX3_become_53 0 rfl ?_
  obtain ⟨x8, hx8⟩ : ∃ z : Nat, z = 3 + 4 * (o - 1) := ⟨_, rfl⟩
  replace hv := hv x8 hx8
  have hgx8 : 3 ≤ x8 ∧ x8 < 11 := by omega
  refine gf_X3_6 (q := x8) E hgo.1 hgo.2 hx8.symm wm_138 dX3_become_54 ?_
  refine y_iconst (v := 0) E dX3_become_57 (by decide) ?_
  refine y_iconst (v := 5) E dX3_become_58 (by decide) ?_
  obtain ⟨h1, h2, h3, h4, h5, hv⟩ := hv
  refine y_copyi E (Nat.lt_of_lt_of_le hgx7.2 (by decide)) (Nat.lt_of_lt_of_le hgx8.2 (by decide)) (xc_harr hgx7.1 hgx7.2) (fun _ => xc_harr hgx8.1 hgx8.2) wm_139 wm_143 wm_144 wm_145 h1 h2 h3 h4 h5 (by decide) (Nat.le_of_ble_eq_true rfl) dX3_become_59 ?_
  refine y_nmH (fun u9 hu9 => ?_)
  replace hv := hv u9 hu9
  refine y_aload_n E dX3_become_62 1 rfl ?_
  obtain ⟨x10, hx10⟩ : ∃ z : Nat, z = 4 + 4 * (a1 - 1) := ⟨_, rfl⟩
  replace hv := hv x10 hx10
  have hgx10 : 3 ≤ x10 ∧ x10 < 11 := by omega
  refine gf_X3_7 (q := x10) E hga1.1 hga1.2 hx10.symm wm_140 dX3_become_63 ?_
  refine y_iconst (v := 0) E dX3_become_66 (by decide) ?_
  refine y_aload_n E dX3_become_67 0 rfl ?_
  obtain ⟨x11, hx11⟩ : ∃ z : Nat, z = 4 + 4 * (o - 1) := ⟨_, rfl⟩
  replace hv := hv x11 hx11
  have hgx11 : 3 ≤ x11 ∧ x11 < 11 := by omega
  refine gf_X3_7 (q := x11) E hgo.1 hgo.2 hx11.symm wm_140 dX3_become_68 ?_
  refine y_iconst (v := 0) E dX3_become_71 (by decide) ?_
  refine y_iconst (v := 5) E dX3_become_72 (by decide) ?_
  obtain ⟨h1, h2, h3, h4, h5, hv⟩ := hv
  refine y_copyi E (Nat.lt_of_lt_of_le hgx10.2 (by decide)) (Nat.lt_of_lt_of_le hgx11.2 (by decide)) (xc_harr hgx10.1 hgx10.2) (fun _ => xc_harr hgx11.1 hgx11.2) wm_139 wm_143 wm_144 wm_145 h1 h2 h3 h4 h5 (by decide) (Nat.le_of_ble_eq_true rfl) dX3_become_73 ?_
  refine y_nmH (fun u12 hu12 => ?_)
  replace hv := hv u12 hu12
  refine y_aload_n E dX3_become_76 1 rfl ?_
  obtain ⟨x13, hx13⟩ : ∃ z : Nat, z = 5 + 4 * (a1 - 1) := ⟨_, rfl⟩
  replace hv := hv x13 hx13
  have hgx13 : 3 ≤ x13 ∧ x13 < 11 := by omega
  refine gf_X3_8 (q := x13) E hga1.1 hga1.2 hx13.symm wm_141 dX3_become_77 ?_
  refine y_iconst (v := 0) E dX3_become_80 (by decide) ?_
  refine y_aload_n E dX3_become_81 0 rfl ?_
  obtain ⟨x14, hx14⟩ : ∃ z : Nat, z = 5 + 4 * (o - 1) := ⟨_, rfl⟩
  replace hv := hv x14 hx14
  have hgx14 : 3 ≤ x14 ∧ x14 < 11 := by omega
  refine gf_X3_8 (q := x14) E hgo.1 hgo.2 hx14.symm wm_141 dX3_become_82 ?_
  refine y_iconst (v := 0) E dX3_become_85 (by decide) ?_
  refine y_iconst (v := 5) E dX3_become_86 (by decide) ?_
  obtain ⟨h1, h2, h3, h4, h5, hv⟩ := hv
  refine y_copyi E (Nat.lt_of_lt_of_le hgx13.2 (by decide)) (Nat.lt_of_lt_of_le hgx14.2 (by decide)) (xc_harr hgx13.1 hgx13.2) (fun _ => xc_harr hgx14.1 hgx14.2) wm_139 wm_143 wm_144 wm_145 h1 h2 h3 h4 h5 (by decide) (Nat.le_of_ble_eq_true rfl) dX3_become_87 ?_
  refine y_nmH (fun u15 hu15 => ?_)
  replace hv := hv u15 hu15
  refine y_aload_n E dX3_become_90 1 rfl ?_
  obtain ⟨x16, hx16⟩ : ∃ z : Nat, z = 6 + 4 * (a1 - 1) := ⟨_, rfl⟩
  replace hv := hv x16 hx16
  have hgx16 : 3 ≤ x16 ∧ x16 < 11 := by omega
  refine gf_X3_9 (q := x16) E hga1.1 hga1.2 hx16.symm wm_142 dX3_become_91 ?_
  refine y_iconst (v := 0) E dX3_become_94 (by decide) ?_
  refine y_aload_n E dX3_become_95 0 rfl ?_
  obtain ⟨x17, hx17⟩ : ∃ z : Nat, z = 6 + 4 * (o - 1) := ⟨_, rfl⟩
  replace hv := hv x17 hx17
  have hgx17 : 3 ≤ x17 ∧ x17 < 11 := by omega
  refine gf_X3_9 (q := x17) E hgo.1 hgo.2 hx17.symm wm_142 dX3_become_96 ?_
  refine y_iconst (v := 0) E dX3_become_99 (by decide) ?_
  refine y_iconst (v := 5) E dX3_become_100 (by decide) ?_
  obtain ⟨h1, h2, h3, h4, h5, hv⟩ := hv
  refine y_copyi E (Nat.lt_of_lt_of_le hgx16.2 (by decide)) (Nat.lt_of_lt_of_le hgx17.2 (by decide)) (xc_harr hgx16.1 hgx16.2) (fun _ => xc_harr hgx17.1 hgx17.2) wm_139 wm_143 wm_144 wm_145 h1 h2 h3 h4 h5 (by decide) (Nat.le_of_ble_eq_true rfl) dX3_become_101 ?_
  refine y_nmH (fun u18 hu18 => ?_)
  replace hv := hv u18 hu18
  exact y_vret E dX3_become_104 hv
theorem dX3_bits_0 : decode cX3_bits 0 = .ok (.iload_n 1, 1) := by decide +kernel
theorem dX3_bits_1 : decode cX3_bits 1 = .ok (.ifCond .ne 10, 3) := by decide +kernel
theorem dX3_bits_4 : decode cX3_bits 4 = .ok (.aload_n 0, 1) := by decide +kernel
theorem dX3_bits_5 : decode cX3_bits 5 = .ok (.getfield 24, 3) := by decide +kernel
theorem dX3_bits_8 : decode cX3_bits 8 = .ok (.goto 19, 3) := by decide +kernel
theorem dX3_bits_11 : decode cX3_bits 11 = .ok (.iload_n 1, 1) := by decide +kernel
theorem dX3_bits_12 : decode cX3_bits 12 = .ok (.iconst 1, 1) := by decide +kernel
theorem dX3_bits_13 : decode cX3_bits 13 = .ok (.if_icmp .ne 10, 3) := by decide +kernel
theorem dX3_bits_16 : decode cX3_bits 16 = .ok (.aload_n 0, 1) := by decide +kernel
theorem dX3_bits_17 : decode cX3_bits 17 = .ok (.getfield 28, 3) := by decide +kernel
theorem dX3_bits_20 : decode cX3_bits 20 = .ok (.goto 7, 3) := by decide +kernel
theorem dX3_bits_23 : decode cX3_bits 23 = .ok (.aload_n 0, 1) := by decide +kernel
theorem dX3_bits_24 : decode cX3_bits 24 = .ok (.getfield 31, 3) := by decide +kernel
theorem dX3_bits_27 : decode cX3_bits 27 = .ok (.ireturn, 1) := by decide +kernel
set_option maxRecDepth 100000 in
set_option maxHeartbeats 4000000 in
theorem kX3_bits (l : Launch) (w : wT) (hw : yOk w 55) (σ : Hp) (o : Nat) (a1 : Int32) (K : Int32 → Hp → Prop) (hv : VX3_bits K σ o a1) : yMet l w xcf 55 yX3_bits cX3_bits 2 (some .int) 1 [.ref (w.1 o), .int a1] σ (yQi w xcf 55 K) := by
  unfold VX3_bits at hv
  refine y_start (lv0 := [(0, .ref (w.1 o)), (1, .int a1)]) (by decide +kernel) (own := RX3) rfl hw (Nat.le_of_ble_eq_true rfl) rfl (fun p e s m below meth c A E => ?_)
  obtain ⟨hgo, hv⟩ := hv
  refine y_iload_n E dX3_bits_0 1 rfl ?_
  refine y_if_ne (tgt := 11) E dX3_bits_1 (by decide) (fun c1 => ?_) (fun c1 => ?_)
  · replace hv := ite_f hv c1
    refine y_iload_n E dX3_bits_11 1 rfl ?_
    refine y_iconst (v := 1) E dX3_bits_12 (by decide) ?_
    refine y_icmp_ne (tgt := 23) E dX3_bits_13 (by decide) (fun c2 => ?_) (fun c2 => ?_)
    · replace hv := ite_f hv c2
      refine y_aload_n E dX3_bits_23 0 rfl ?_
      refine gf_X3_2 E hgo.1 hgo.2 wm_134 dX3_bits_24 ?_
      exact y_iret E dX3_bits_27 hv
    · replace hv := ite_t hv c2
      refine y_aload_n E dX3_bits_16 0 rfl ?_
      refine gf_X3_1 E hgo.1 hgo.2 wm_133 dX3_bits_17 ?_
      refine y_goto (tgt := 27) E dX3_bits_20 (by decide) ?_
      exact y_iret E dX3_bits_27 hv
  · replace hv := ite_t hv c1
    refine y_aload_n E dX3_bits_4 0 rfl ?_
    refine gf_X3_0 E hgo.1 hgo.2 wm_132 dX3_bits_5 ?_
    refine y_goto (tgt := 27) E dX3_bits_8 (by decide) ?_
    exact y_iret E dX3_bits_27 hv
theorem dX3_flip_0 : decode cX3_flip 0 = .ok (.iload_n 1, 1) := by decide +kernel
theorem dX3_flip_1 : decode cX3_flip 1 = .ok (.ifCond .ne 18, 3) := by decide +kernel
theorem dX3_flip_4 : decode cX3_flip 4 = .ok (.aload_n 0, 1) := by decide +kernel
theorem dX3_flip_5 : decode cX3_flip 5 = .ok (.dup, 1) := by decide +kernel
theorem dX3_flip_6 : decode cX3_flip 6 = .ok (.getfield 24, 3) := by decide +kernel
theorem dX3_flip_9 : decode cX3_flip 9 = .ok (.iconst 1, 1) := by decide +kernel
theorem dX3_flip_10 : decode cX3_flip 10 = .ok (.iload_n 2, 1) := by decide +kernel
theorem dX3_flip_11 : decode cX3_flip 11 = .ok (.ishl, 1) := by decide +kernel
theorem dX3_flip_12 : decode cX3_flip 12 = .ok (.ixor, 1) := by decide +kernel
theorem dX3_flip_13 : decode cX3_flip 13 = .ok (.putfield 24, 3) := by decide +kernel
theorem dX3_flip_16 : decode cX3_flip 16 = .ok (.goto 35, 3) := by decide +kernel
theorem dX3_flip_19 : decode cX3_flip 19 = .ok (.iload_n 1, 1) := by decide +kernel
theorem dX3_flip_20 : decode cX3_flip 20 = .ok (.iconst 1, 1) := by decide +kernel
theorem dX3_flip_21 : decode cX3_flip 21 = .ok (.if_icmp .ne 18, 3) := by decide +kernel
theorem dX3_flip_24 : decode cX3_flip 24 = .ok (.aload_n 0, 1) := by decide +kernel
theorem dX3_flip_25 : decode cX3_flip 25 = .ok (.dup, 1) := by decide +kernel
theorem dX3_flip_26 : decode cX3_flip 26 = .ok (.getfield 28, 3) := by decide +kernel
theorem dX3_flip_29 : decode cX3_flip 29 = .ok (.iconst 1, 1) := by decide +kernel
theorem dX3_flip_30 : decode cX3_flip 30 = .ok (.iload_n 2, 1) := by decide +kernel
theorem dX3_flip_31 : decode cX3_flip 31 = .ok (.ishl, 1) := by decide +kernel
theorem dX3_flip_32 : decode cX3_flip 32 = .ok (.ixor, 1) := by decide +kernel
theorem dX3_flip_33 : decode cX3_flip 33 = .ok (.putfield 28, 3) := by decide +kernel
theorem dX3_flip_36 : decode cX3_flip 36 = .ok (.goto 15, 3) := by decide +kernel
theorem dX3_flip_39 : decode cX3_flip 39 = .ok (.aload_n 0, 1) := by decide +kernel
theorem dX3_flip_40 : decode cX3_flip 40 = .ok (.dup, 1) := by decide +kernel
theorem dX3_flip_41 : decode cX3_flip 41 = .ok (.getfield 31, 3) := by decide +kernel
theorem dX3_flip_44 : decode cX3_flip 44 = .ok (.iconst 1, 1) := by decide +kernel
theorem dX3_flip_45 : decode cX3_flip 45 = .ok (.iload_n 2, 1) := by decide +kernel
theorem dX3_flip_46 : decode cX3_flip 46 = .ok (.ishl, 1) := by decide +kernel
theorem dX3_flip_47 : decode cX3_flip 47 = .ok (.ixor, 1) := by decide +kernel
theorem dX3_flip_48 : decode cX3_flip 48 = .ok (.putfield 31, 3) := by decide +kernel
theorem dX3_flip_51 : decode cX3_flip 51 = .ok (.return_, 1) := by decide +kernel
set_option maxRecDepth 100000 in
set_option maxHeartbeats 4000000 in
theorem kX3_flip (l : Launch) (w : wT) (hw : yOk w 55) (σ : Hp) (o : Nat) (a1 : Int32) (a2 : Int32) (K : Hp → Prop) (hv : VX3_flip K σ o a1 a2) : yMet l w xcf 55 yX3_flip cX3_flip 3 none 1 [.ref (w.1 o), .int a1, .int a2] σ (yQv w xcf 55 K) := by
  unfold VX3_flip at hv
  refine y_start (lv0 := [(0, .ref (w.1 o)), (1, .int a1), (2, .int a2)]) (by decide +kernel) (own := RX3) rfl hw (Nat.le_of_ble_eq_true rfl) rfl (fun p e s m below meth c A E => ?_)
  obtain ⟨hgo, hv⟩ := hv
  refine y_iload_n E dX3_flip_0 1 rfl ?_
  refine y_if_ne (tgt := 19) E dX3_flip_1 (by decide) (fun c1 => ?_) (fun c1 => ?_)
  · replace hv := ite_f hv c1
    refine y_iload_n E dX3_flip_19 1 rfl ?_
    refine y_iconst (v := 1) E dX3_flip_20 (by decide) ?_
    refine y_icmp_ne (tgt := 39) E dX3_flip_21 (by decide) (fun c2 => ?_) (fun c2 => ?_)
    · replace hv := ite_f hv c2
      refine y_aload_n E dX3_flip_39 0 rfl ?_
      refine y_dup E dX3_flip_40 rfl ?_
      refine gf_X3_2 E hgo.1 hgo.2 wm_134 dX3_flip_41 ?_
      refine y_iconst (v := 1) E dX3_flip_44 (by decide) ?_
      refine y_iload_n E dX3_flip_45 2 rfl ?_
      refine y_ishl E dX3_flip_46 ?_
      refine y_ixor E dX3_flip_47 ?_
      refine pf_X3_2 E hgo.1 hgo.2 wm_134 dX3_flip_48 ?_
      refine y_nmH (fun u3 hu3 => ?_)
      replace hv := hv u3 hu3
      exact y_vret E dX3_flip_51 hv
    · replace hv := ite_t hv c2
      refine y_aload_n E dX3_flip_24 0 rfl ?_
      refine y_dup E dX3_flip_25 rfl ?_
      refine gf_X3_1 E hgo.1 hgo.2 wm_133 dX3_flip_26 ?_
      refine y_iconst (v := 1) E dX3_flip_29 (by decide) ?_
      refine y_iload_n E dX3_flip_30 2 rfl ?_
      refine y_ishl E dX3_flip_31 ?_
      refine y_ixor E dX3_flip_32 ?_
      refine pf_X3_1 E hgo.1 hgo.2 wm_133 dX3_flip_33 ?_
      refine y_nmH (fun u4 hu4 => ?_)
      replace hv := hv u4 hu4
      refine y_goto (tgt := 51) E dX3_flip_36 (by decide) ?_
      exact y_vret E dX3_flip_51 hv
  · replace hv := ite_t hv c1
    refine y_aload_n E dX3_flip_4 0 rfl ?_
    refine y_dup E dX3_flip_5 rfl ?_
    refine gf_X3_0 E hgo.1 hgo.2 wm_132 dX3_flip_6 ?_
    refine y_iconst (v := 1) E dX3_flip_9 (by decide) ?_
    refine y_iload_n E dX3_flip_10 2 rfl ?_
    refine y_ishl E dX3_flip_11 ?_
    refine y_ixor E dX3_flip_12 ?_
    refine pf_X3_0 E hgo.1 hgo.2 wm_132 dX3_flip_13 ?_
    refine y_nmH (fun u5 hu5 => ?_)
    replace hv := hv u5 hu5
    refine y_goto (tgt := 51) E dX3_flip_16 (by decide) ?_
    exact y_vret E dX3_flip_51 hv
theorem dX4_add_0 : decode cX4_add 0 = .ok (.aload_n 0, 1) := by decide +kernel
theorem dX4_add_1 : decode cX4_add 1 = .ok (.getfield 15, 3) := by decide +kernel
theorem dX4_add_4 : decode cX4_add 4 = .ok (.sipush 160, 3) := by decide +kernel
theorem dX4_add_7 : decode cX4_add 7 = .ok (.if_icmp .ge 24, 3) := by decide +kernel
theorem dX4_add_10 : decode cX4_add 10 = .ok (.aload_n 0, 1) := by decide +kernel
theorem dX4_add_11 : decode cX4_add 11 = .ok (.getfield 9, 3) := by decide +kernel
theorem dX4_add_14 : decode cX4_add 14 = .ok (.aload_n 0, 1) := by decide +kernel
theorem dX4_add_15 : decode cX4_add 15 = .ok (.getfield 15, 3) := by decide +kernel
theorem dX4_add_18 : decode cX4_add 18 = .ok (.iload_n 1, 1) := by decide +kernel
theorem dX4_add_19 : decode cX4_add 19 = .ok (.i2b, 1) := by decide +kernel
theorem dX4_add_20 : decode cX4_add 20 = .ok (.bastore, 1) := by decide +kernel
theorem dX4_add_21 : decode cX4_add 21 = .ok (.aload_n 0, 1) := by decide +kernel
theorem dX4_add_22 : decode cX4_add 22 = .ok (.dup, 1) := by decide +kernel
theorem dX4_add_23 : decode cX4_add 23 = .ok (.getfield 15, 3) := by decide +kernel
theorem dX4_add_26 : decode cX4_add 26 = .ok (.iconst 1, 1) := by decide +kernel
theorem dX4_add_27 : decode cX4_add 27 = .ok (.iadd, 1) := by decide +kernel
theorem dX4_add_28 : decode cX4_add 28 = .ok (.putfield 15, 3) := by decide +kernel
theorem dX4_add_31 : decode cX4_add 31 = .ok (.return_, 1) := by decide +kernel
set_option maxRecDepth 100000 in
set_option maxHeartbeats 4000000 in
theorem kX4_add (l : Launch) (w : wT) (hw : yOk w 55) (σ : Hp) (a1 : Int32) (K : Hp → Prop) (hv : VX4_add K σ a1) : yMet l w xcf 55 yX4_add cX4_add 2 none 1 [.ref (w.1 38), .int a1] σ (yQv w xcf 55 K) := by
  unfold VX4_add at hv
  refine y_start (lv0 := [(0, .ref (w.1 38)), (1, .int a1)]) (by decide +kernel) (own := RX4) rfl hw (Nat.le_of_ble_eq_true rfl) rfl (fun p e s m below meth c A E => ?_)
  refine y_aload_n E dX4_add_0 0 rfl ?_
  refine gf_X4_1 E (by decide) (by decide) wm_146 dX4_add_1 ?_
  refine y_sipush (v := 160) E dX4_add_4 (by decide) ?_
  refine y_icmp_ge (tgt := 31) E dX4_add_7 (by decide) (fun c1 => ?_) (fun c1 => ?_)
  · replace hv := ite_t hv c1
    exact y_vret E dX4_add_31 hv
  · replace hv := ite_f hv c1
    refine y_aload_n E dX4_add_10 0 rfl ?_
    refine gf_X4_0 E (by decide) (by decide) wm_147 dX4_add_11 ?_
    refine y_aload_n E dX4_add_14 0 rfl ?_
    refine gf_X4_1 E (by decide) (by decide) wm_146 dX4_add_15 ?_
    refine y_iload_n E dX4_add_18 1 rfl ?_
    refine y_i2b E dX4_add_19 ?_
    obtain ⟨hi, hv⟩ := hv
    refine y_bast E (Nat.lt_of_lt_of_le (show 39 < 40 by decide) (by decide)) (fun _ => xc_bytes (by decide) (by decide)) hi dX4_add_20 ?_
    refine y_nmH (fun u2 hu2 => ?_)
    replace hv := hv u2 hu2
    refine y_aload_n E dX4_add_21 0 rfl ?_
    refine y_dup E dX4_add_22 rfl ?_
    refine gf_X4_1 E (by decide) (by decide) wm_146 dX4_add_23 ?_
    refine y_iconst (v := 1) E dX4_add_26 (by decide) ?_
    refine y_iadd E dX4_add_27 ?_
    refine pf_X4_1 E (by decide) (by decide) wm_146 dX4_add_28 ?_
    refine y_nmH (fun u3 hu3 => ?_)
    replace hv := hv u3 hu3
    exact y_vret E dX4_add_31 hv
theorem dX4_isDigit_0 : decode cX4_isDigit 0 = .ok (.iload_n 0, 1) := by decide +kernel
theorem dX4_isDigit_1 : decode cX4_isDigit 1 = .ok (.bipush 48, 2) := by decide +kernel
theorem dX4_isDigit_3 : decode cX4_isDigit 3 = .ok (.if_icmp .lt 13, 3) := by decide +kernel
theorem dX4_isDigit_6 : decode cX4_isDigit 6 = .ok (.iload_n 0, 1) := by decide +kernel
theorem dX4_isDigit_7 : decode cX4_isDigit 7 = .ok (.bipush 57, 2) := by decide +kernel
theorem dX4_isDigit_9 : decode cX4_isDigit 9 = .ok (.if_icmp .gt 7, 3) := by decide +kernel
theorem dX4_isDigit_12 : decode cX4_isDigit 12 = .ok (.iconst 1, 1) := by decide +kernel
theorem dX4_isDigit_13 : decode cX4_isDigit 13 = .ok (.goto 4, 3) := by decide +kernel
theorem dX4_isDigit_16 : decode cX4_isDigit 16 = .ok (.iconst 0, 1) := by decide +kernel
theorem dX4_isDigit_17 : decode cX4_isDigit 17 = .ok (.ireturn, 1) := by decide +kernel
set_option maxRecDepth 100000 in
set_option maxHeartbeats 4000000 in
theorem kX4_isDigit (l : Launch) (w : wT) (hw : yOk w 55) (σ : Hp) (a1 : Int32) (K : Int32 → Hp → Prop) (hv : VX4_isDigit K σ a1) : yMet l w xcf 55 yX4_isDigit cX4_isDigit 1 (some .boolean) 1 [.int a1] σ (yQi w xcf 55 K) := by
  unfold VX4_isDigit at hv
  refine y_start (lv0 := [(0, .int a1)]) (by decide +kernel) (own := RX4) rfl hw (Nat.le_of_ble_eq_true rfl) rfl (fun p e s m below meth c A E => ?_)
  refine y_iload_n E dX4_isDigit_0 0 rfl ?_
  refine y_bipush (v := 48) E dX4_isDigit_1 (by decide) ?_
  refine y_icmp_lt (tgt := 16) E dX4_isDigit_3 (by decide) (fun c1 => ?_) (fun c1 => ?_)
  · replace hv := ite_t hv c1
    refine y_iconst (v := 0) E dX4_isDigit_16 (by decide) ?_
    exact y_nret E dX4_isDigit_17 (by decide) hv
  · replace hv := ite_f hv c1
    refine y_iload_n E dX4_isDigit_6 0 rfl ?_
    refine y_bipush (v := 57) E dX4_isDigit_7 (by decide) ?_
    refine y_icmp_gt (tgt := 16) E dX4_isDigit_9 (by decide) (fun c2 => ?_) (fun c2 => ?_)
    · replace hv := ite_t hv c2
      refine y_iconst (v := 0) E dX4_isDigit_16 (by decide) ?_
      exact y_nret E dX4_isDigit_17 (by decide) hv
    · replace hv := ite_f hv c2
      refine y_iconst (v := 1) E dX4_isDigit_12 (by decide) ?_
      refine y_goto (tgt := 17) E dX4_isDigit_13 (by decide) ?_
      exact y_nret E dX4_isDigit_17 (by decide) hv
theorem dX4_goOnNumber_0 : decode cX4_goOnNumber 0 = .ok (.iconst 0, 1) := by decide +kernel
theorem dX4_goOnNumber_1 : decode cX4_goOnNumber 1 = .ok (.istore_n 1, 1) := by decide +kernel
theorem dX4_goOnNumber_2 : decode cX4_goOnNumber 2 = .ok (.aload_n 0, 1) := by decide +kernel
theorem dX4_goOnNumber_3 : decode cX4_goOnNumber 3 = .ok (.getfield 31, 3) := by decide +kernel
theorem dX4_goOnNumber_6 : decode cX4_goOnNumber 6 = .ok (.aload_n 0, 1) := by decide +kernel
theorem dX4_goOnNumber_7 : decode cX4_goOnNumber 7 = .ok (.getfield 15, 3) := by decide +kernel
theorem dX4_goOnNumber_10 : decode cX4_goOnNumber 10 = .ok (.if_icmp .ge 49, 3) := by decide +kernel
theorem dX4_goOnNumber_13 : decode cX4_goOnNumber 13 = .ok (.aload_n 0, 1) := by decide +kernel
theorem dX4_goOnNumber_14 : decode cX4_goOnNumber 14 = .ok (.getfield 9, 3) := by decide +kernel
theorem dX4_goOnNumber_17 : decode cX4_goOnNumber 17 = .ok (.aload_n 0, 1) := by decide +kernel
theorem dX4_goOnNumber_18 : decode cX4_goOnNumber 18 = .ok (.getfield 31, 3) := by decide +kernel
theorem dX4_goOnNumber_21 : decode cX4_goOnNumber 21 = .ok (.baload, 1) := by decide +kernel
theorem dX4_goOnNumber_22 : decode cX4_goOnNumber 22 = .ok (.invokestatic 77, 3) := by decide +kernel
theorem dX4_goOnNumber_25 : decode cX4_goOnNumber 25 = .ok (.ifCond .eq 34, 3) := by decide +kernel
theorem dX4_goOnNumber_28 : decode cX4_goOnNumber 28 = .ok (.bipush 10, 2) := by decide +kernel
theorem dX4_goOnNumber_30 : decode cX4_goOnNumber 30 = .ok (.iload_n 1, 1) := by decide +kernel
theorem dX4_goOnNumber_31 : decode cX4_goOnNumber 31 = .ok (.imul, 1) := by decide +kernel
theorem dX4_goOnNumber_32 : decode cX4_goOnNumber 32 = .ok (.aload_n 0, 1) := by decide +kernel
theorem dX4_goOnNumber_33 : decode cX4_goOnNumber 33 = .ok (.getfield 9, 3) := by decide +kernel
theorem dX4_goOnNumber_36 : decode cX4_goOnNumber 36 = .ok (.aload_n 0, 1) := by decide +kernel
theorem dX4_goOnNumber_37 : decode cX4_goOnNumber 37 = .ok (.getfield 31, 3) := by decide +kernel
theorem dX4_goOnNumber_40 : decode cX4_goOnNumber 40 = .ok (.baload, 1) := by decide +kernel
theorem dX4_goOnNumber_41 : decode cX4_goOnNumber 41 = .ok (.iadd, 1) := by decide +kernel
theorem dX4_goOnNumber_42 : decode cX4_goOnNumber 42 = .ok (.bipush 48, 2) := by decide +kernel
theorem dX4_goOnNumber_44 : decode cX4_goOnNumber 44 = .ok (.isub, 1) := by decide +kernel
theorem dX4_goOnNumber_45 : decode cX4_goOnNumber 45 = .ok (.istore_n 1, 1) := by decide +kernel
theorem dX4_goOnNumber_46 : decode cX4_goOnNumber 46 = .ok (.aload_n 0, 1) := by decide +kernel
theorem dX4_goOnNumber_47 : decode cX4_goOnNumber 47 = .ok (.dup, 1) := by decide +kernel
theorem dX4_goOnNumber_48 : decode cX4_goOnNumber 48 = .ok (.getfield 31, 3) := by decide +kernel
theorem dX4_goOnNumber_51 : decode cX4_goOnNumber 51 = .ok (.iconst 1, 1) := by decide +kernel
theorem dX4_goOnNumber_52 : decode cX4_goOnNumber 52 = .ok (.iadd, 1) := by decide +kernel
theorem dX4_goOnNumber_53 : decode cX4_goOnNumber 53 = .ok (.putfield 31, 3) := by decide +kernel
theorem dX4_goOnNumber_56 : decode cX4_goOnNumber 56 = .ok (.goto (-54), 3) := by decide +kernel
theorem dX4_goOnNumber_59 : decode cX4_goOnNumber 59 = .ok (.aload_n 0, 1) := by decide +kernel
theorem dX4_goOnNumber_60 : decode cX4_goOnNumber 60 = .ok (.aload_n 0, 1) := by decide +kernel
theorem dX4_goOnNumber_61 : decode cX4_goOnNumber 61 = .ok (.getfield 31, 3) := by decide +kernel
theorem dX4_goOnNumber_64 : decode cX4_goOnNumber 64 = .ok (.aload_n 0, 1) := by decide +kernel
theorem dX4_goOnNumber_65 : decode cX4_goOnNumber 65 = .ok (.getfield 74, 3) := by decide +kernel
theorem dX4_goOnNumber_68 : decode cX4_goOnNumber 68 = .ok (.isub, 1) := by decide +kernel
theorem dX4_goOnNumber_69 : decode cX4_goOnNumber 69 = .ok (.iconst 4, 1) := by decide +kernel
theorem dX4_goOnNumber_70 : decode cX4_goOnNumber 70 = .ok (.if_icmp .le 8, 3) := by decide +kernel
theorem dX4_goOnNumber_73 : decode cX4_goOnNumber 73 = .ok (.bipush (-31), 2) := by decide +kernel
theorem dX4_goOnNumber_75 : decode cX4_goOnNumber 75 = .ok (.goto 4, 3) := by decide +kernel
theorem dX4_goOnNumber_78 : decode cX4_goOnNumber 78 = .ok (.iload_n 1, 1) := by decide +kernel
theorem dX4_goOnNumber_79 : decode cX4_goOnNumber 79 = .ok (.putfield 53, 3) := by decide +kernel
theorem dX4_goOnNumber_82 : decode cX4_goOnNumber 82 = .ok (.return_, 1) := by decide +kernel
set_option maxRecDepth 100000 in
set_option maxHeartbeats 4000000 in
theorem kX4_goOnNumber (l : Launch) (w : wT) (hw : yOk w 55) (σ : Hp)  (K : Hp → Prop) (hv : VX4_goOnNumber K σ ) : yMet l w xcf 55 yX4_goOnNumber cX4_goOnNumber 2 none 2 [.ref (w.1 38)] σ (yQv w xcf 55 K) := by
  unfold VX4_goOnNumber at hv
  refine y_start (lv0 := [(0, .ref (w.1 38))]) (by decide +kernel) (own := RX4) rfl hw (Nat.le_of_ble_eq_true rfl) rfl (fun p e s m below meth c A E => ?_)
  have hb59 : ∀ (σ : Hp) (l1 : Int32), VX4_goOnNumber_b59 K σ l1 → YY p l e (yRm 2) s m [.ref (w.1 38)].toArray below meth c w xcf 55 A (MQ below (yQv w xcf 55 K A) [.ref (w.1 38)].toArray s 0 0 A) 2 σ 59 [(0, .ref (w.1 38)), (1, .int l1)] [] := by
    intro σ l1 hv
    unfold VX4_goOnNumber_b59 at hv
    refine y_aload_n E dX4_goOnNumber_59 0 rfl ?_
    refine y_aload_n E dX4_goOnNumber_60 0 rfl ?_
    refine gf_X4_4 E (by decide) (by decide) wm_151 dX4_goOnNumber_61 ?_
    refine y_aload_n E dX4_goOnNumber_64 0 rfl ?_
    refine gf_X4_3 E (by decide) (by decide) wm_205 dX4_goOnNumber_65 ?_
    refine y_isub E dX4_goOnNumber_68 ?_
    refine y_iconst (v := 4) E dX4_goOnNumber_69 (by decide) ?_
    refine y_icmp_le (tgt := 78) E dX4_goOnNumber_70 (by decide) (fun c7 => ?_) (fun c7 => ?_)
    · replace hv := ite_t hv c7
      refine y_iload_n E dX4_goOnNumber_78 1 rfl ?_
      refine pf_X4_2 E (by decide) (by decide) wm_180 dX4_goOnNumber_79 ?_
      refine y_nmH (fun u8 hu8 => ?_)
      replace hv := hv u8 hu8
      exact y_vret E dX4_goOnNumber_82 hv
    · replace hv := ite_f hv c7
      refine y_bipush (v := (-31)) E dX4_goOnNumber_73 (by decide) ?_
      refine y_goto (tgt := 79) E dX4_goOnNumber_75 (by decide) ?_
      refine pf_X4_2 E (by decide) (by decide) wm_180 dX4_goOnNumber_79 ?_
      refine y_nmH (fun u9 hu9 => ?_)
      replace hv := hv u9 hu9
      exact y_vret E dX4_goOnNumber_82 hv
  have hL2 : ∀ (n2 : Nat) (σ : Hp) (l1 : Int32), VX4_goOnNumber_L2 K n2 σ l1 → YY p l e (yRm 2) s m [.ref (w.1 38)].toArray below meth c w xcf 55 A (MQ below (yQv w xcf 55 K A) [.ref (w.1 38)].toArray s 0 0 A) 2 σ 2 [(0, .ref (w.1 38)), (1, .int l1)] [] := by
    intro n2
    induction n2 with
    | zero => exact fun _ _ hv => (by unfold VX4_goOnNumber_L2 at hv; exact hv.elim)
    | succ n2 ih2 =>
      intro σ l1 hv
      unfold VX4_goOnNumber_L2 at hv
      refine y_aload_n E dX4_goOnNumber_2 0 rfl ?_
      refine gf_X4_4 E (by decide) (by decide) wm_151 dX4_goOnNumber_3 ?_
      refine y_aload_n E dX4_goOnNumber_6 0 rfl ?_
      refine gf_X4_1 E (by decide) (by decide) wm_146 dX4_goOnNumber_7 ?_
      refine y_icmp_ge (tgt := 59) E dX4_goOnNumber_10 (by decide) (fun c1 => ?_) (fun c1 => ?_)
      · replace hv := ite_t hv c1
        exact hb59 σ l1 hv
      · replace hv := ite_f hv c1
        refine y_aload_n E dX4_goOnNumber_13 0 rfl ?_
        refine gf_X4_0 E (by decide) (by decide) wm_147 dX4_goOnNumber_14 ?_
        refine y_aload_n E dX4_goOnNumber_17 0 rfl ?_
        refine gf_X4_4 E (by decide) (by decide) wm_151 dX4_goOnNumber_18 ?_
        obtain ⟨hi, hv⟩ := hv
        refine y_bald E (Nat.lt_of_lt_of_le (show 39 < 40 by decide) (by decide)) (xc_bytes (by decide) (by decide)) hi dX4_goOnNumber_21 ?_
        refine y_calli E (y_runS E (rest := []) (kX4_isDigit l w E.2.2.1 σ (σ 39 (σ 38 4).toNatClampNeg) _ hv) (y_cwS 1 E.1.2.2.2.2 wm_206 wm_221 wm_157 wm_222 (by decide +kernel) (yRm_le (by decide) (by decide))) rfl rfl (Nat.le_of_ble_eq_true rfl) dX4_goOnNumber_22) (fun v2 u3 hk => ?_)
        clear hv
        have hv := hk
        clear hk
        refine y_if_eq (tgt := 59) E dX4_goOnNumber_25 (by decide) (fun c4 => ?_) (fun c4 => ?_)
        · replace hv := ite_t hv c4
          exact hb59 u3 l1 hv
        · replace hv := ite_f hv c4
          refine y_bipush (v := 10) E dX4_goOnNumber_28 (by decide) ?_
          refine y_iload_n E dX4_goOnNumber_30 1 rfl ?_
          refine y_imul E dX4_goOnNumber_31 ?_
          refine y_aload_n E dX4_goOnNumber_32 0 rfl ?_
          refine gf_X4_0 E (by decide) (by decide) wm_147 dX4_goOnNumber_33 ?_
          refine y_aload_n E dX4_goOnNumber_36 0 rfl ?_
          refine gf_X4_4 E (by decide) (by decide) wm_151 dX4_goOnNumber_37 ?_
          obtain ⟨hi, hv⟩ := hv
          refine y_bald E (Nat.lt_of_lt_of_le (show 39 < 40 by decide) (by decide)) (xc_bytes (by decide) (by decide)) hi dX4_goOnNumber_40 ?_
          refine y_iadd E dX4_goOnNumber_41 ?_
          refine y_bipush (v := 48) E dX4_goOnNumber_42 (by decide) ?_
          refine y_isub E dX4_goOnNumber_44 ?_
          refine y_nmi (fun x5 hx5 => ?_)
          replace hv := hv x5 hx5
          refine y_istore_n (lv' := [(1, .int x5), (0, .ref (w.1 38))]) E dX4_goOnNumber_45 (by decide) rfl ?_
          refine y_aload_n E dX4_goOnNumber_46 1 rfl ?_
          refine y_dup E dX4_goOnNumber_47 rfl ?_
          refine gf_X4_4 E (by decide) (by decide) wm_151 dX4_goOnNumber_48 ?_
          refine y_iconst (v := 1) E dX4_goOnNumber_51 (by decide) ?_
          refine y_iadd E dX4_goOnNumber_52 ?_
          refine pf_X4_4 E (by decide) (by decide) wm_151 dX4_goOnNumber_53 ?_
          refine y_nmH (fun u6 hu6 => ?_)
          replace hv := hv u6 hu6
          refine y_goto (tgt := 2) E dX4_goOnNumber_56 (by decide) ?_
          refine y_lv (lv' := [(0, .ref (w.1 38)), (1, .int x5)]) [1, 0] rfl ?_
          exact ih2 u6 x5 hv
  refine y_iconst (v := 0) E dX4_goOnNumber_0 (by decide) ?_
  refine y_istore_n (lv' := [(1, .int 0), (0, .ref (w.1 38))]) E dX4_goOnNumber_1 (by decide) rfl ?_
  refine y_lv (lv' := [(0, .ref (w.1 38)), (1, .int 0)]) [1, 0] rfl ?_
  obtain ⟨n0, hv⟩ := hv
  exact hL2 n0 σ 0 hv
theorem dX4_isLetter_0 : decode cX4_isLetter 0 = .ok (.iload_n 0, 1) := by decide +kernel
theorem dX4_isLetter_1 : decode cX4_isLetter 1 = .ok (.bipush 97, 2) := by decide +kernel
theorem dX4_isLetter_3 : decode cX4_isLetter 3 = .ok (.if_icmp .lt 13, 3) := by decide +kernel
theorem dX4_isLetter_6 : decode cX4_isLetter 6 = .ok (.iload_n 0, 1) := by decide +kernel
theorem dX4_isLetter_7 : decode cX4_isLetter 7 = .ok (.bipush 122, 2) := by decide +kernel
theorem dX4_isLetter_9 : decode cX4_isLetter 9 = .ok (.if_icmp .gt 7, 3) := by decide +kernel
theorem dX4_isLetter_12 : decode cX4_isLetter 12 = .ok (.iconst 1, 1) := by decide +kernel
theorem dX4_isLetter_13 : decode cX4_isLetter 13 = .ok (.goto 4, 3) := by decide +kernel
theorem dX4_isLetter_16 : decode cX4_isLetter 16 = .ok (.iconst 0, 1) := by decide +kernel
theorem dX4_isLetter_17 : decode cX4_isLetter 17 = .ok (.ireturn, 1) := by decide +kernel
set_option maxRecDepth 100000 in
set_option maxHeartbeats 4000000 in
theorem kX4_isLetter (l : Launch) (w : wT) (hw : yOk w 55) (σ : Hp) (a1 : Int32) (K : Int32 → Hp → Prop) (hv : VX4_isLetter K σ a1) : yMet l w xcf 55 yX4_isLetter cX4_isLetter 1 (some .boolean) 1 [.int a1] σ (yQi w xcf 55 K) := by
  unfold VX4_isLetter at hv
  refine y_start (lv0 := [(0, .int a1)]) (by decide +kernel) (own := RX4) rfl hw (Nat.le_of_ble_eq_true rfl) rfl (fun p e s m below meth c A E => ?_)
  refine y_iload_n E dX4_isLetter_0 0 rfl ?_
  refine y_bipush (v := 97) E dX4_isLetter_1 (by decide) ?_
  refine y_icmp_lt (tgt := 16) E dX4_isLetter_3 (by decide) (fun c1 => ?_) (fun c1 => ?_)
  · replace hv := ite_t hv c1
    refine y_iconst (v := 0) E dX4_isLetter_16 (by decide) ?_
    exact y_nret E dX4_isLetter_17 (by decide) hv
  · replace hv := ite_f hv c1
    refine y_iload_n E dX4_isLetter_6 0 rfl ?_
    refine y_bipush (v := 122) E dX4_isLetter_7 (by decide) ?_
    refine y_icmp_gt (tgt := 16) E dX4_isLetter_9 (by decide) (fun c2 => ?_) (fun c2 => ?_)
    · replace hv := ite_t hv c2
      refine y_iconst (v := 0) E dX4_isLetter_16 (by decide) ?_
      exact y_nret E dX4_isLetter_17 (by decide) hv
    · replace hv := ite_f hv c2
      refine y_iconst (v := 1) E dX4_isLetter_12 (by decide) ?_
      refine y_goto (tgt := 17) E dX4_isLetter_13 (by decide) ?_
      exact y_nret E dX4_isLetter_17 (by decide) hv
theorem dX4_isWord_0 : decode cX4_isWord 0 = .ok (.aload_n 1, 1) := by decide +kernel
theorem dX4_isWord_1 : decode cX4_isWord 1 = .ok (.invokevirtual 122, 3) := by decide +kernel
theorem dX4_isWord_4 : decode cX4_isWord 4 = .ok (.aload_n 0, 1) := by decide +kernel
theorem dX4_isWord_5 : decode cX4_isWord 5 = .ok (.getfield 31, 3) := by decide +kernel
theorem dX4_isWord_8 : decode cX4_isWord 8 = .ok (.aload_n 0, 1) := by decide +kernel
theorem dX4_isWord_9 : decode cX4_isWord 9 = .ok (.getfield 74, 3) := by decide +kernel
theorem dX4_isWord_12 : decode cX4_isWord 12 = .ok (.isub, 1) := by decide +kernel
theorem dX4_isWord_13 : decode cX4_isWord 13 = .ok (.if_icmp .eq 5, 3) := by decide +kernel
theorem dX4_isWord_16 : decode cX4_isWord 16 = .ok (.iconst 0, 1) := by decide +kernel
theorem dX4_isWord_17 : decode cX4_isWord 17 = .ok (.ireturn, 1) := by decide +kernel
theorem dX4_isWord_18 : decode cX4_isWord 18 = .ok (.iconst 0, 1) := by decide +kernel
theorem dX4_isWord_19 : decode cX4_isWord 19 = .ok (.istore_n 2, 1) := by decide +kernel
theorem dX4_isWord_20 : decode cX4_isWord 20 = .ok (.iload_n 2, 1) := by decide +kernel
theorem dX4_isWord_21 : decode cX4_isWord 21 = .ok (.aload_n 1, 1) := by decide +kernel
theorem dX4_isWord_22 : decode cX4_isWord 22 = .ok (.invokevirtual 122, 3) := by decide +kernel
theorem dX4_isWord_25 : decode cX4_isWord 25 = .ok (.if_icmp .ge 30, 3) := by decide +kernel
theorem dX4_isWord_28 : decode cX4_isWord 28 = .ok (.aload_n 0, 1) := by decide +kernel
theorem dX4_isWord_29 : decode cX4_isWord 29 = .ok (.getfield 9, 3) := by decide +kernel
theorem dX4_isWord_32 : decode cX4_isWord 32 = .ok (.aload_n 0, 1) := by decide +kernel
theorem dX4_isWord_33 : decode cX4_isWord 33 = .ok (.getfield 74, 3) := by decide +kernel
theorem dX4_isWord_36 : decode cX4_isWord 36 = .ok (.iload_n 2, 1) := by decide +kernel
theorem dX4_isWord_37 : decode cX4_isWord 37 = .ok (.iadd, 1) := by decide +kernel
theorem dX4_isWord_38 : decode cX4_isWord 38 = .ok (.baload, 1) := by decide +kernel
theorem dX4_isWord_39 : decode cX4_isWord 39 = .ok (.aload_n 1, 1) := by decide +kernel
theorem dX4_isWord_40 : decode cX4_isWord 40 = .ok (.iload_n 2, 1) := by decide +kernel
theorem dX4_isWord_41 : decode cX4_isWord 41 = .ok (.invokevirtual 128, 3) := by decide +kernel
theorem dX4_isWord_44 : decode cX4_isWord 44 = .ok (.if_icmp .eq 5, 3) := by decide +kernel
theorem dX4_isWord_47 : decode cX4_isWord 47 = .ok (.iconst 0, 1) := by decide +kernel
theorem dX4_isWord_48 : decode cX4_isWord 48 = .ok (.ireturn, 1) := by decide +kernel
theorem dX4_isWord_49 : decode cX4_isWord 49 = .ok (.iinc 2 1, 3) := by decide +kernel
theorem dX4_isWord_52 : decode cX4_isWord 52 = .ok (.goto (-32), 3) := by decide +kernel
theorem dX4_isWord_55 : decode cX4_isWord 55 = .ok (.iconst 1, 1) := by decide +kernel
theorem dX4_isWord_56 : decode cX4_isWord 56 = .ok (.ireturn, 1) := by decide +kernel
set_option maxRecDepth 100000 in
set_option maxHeartbeats 4000000 in
theorem kX4_isWord (l : Launch) (w : wT) (hw : yOk w 55) (σ : Hp) (a1 : Nat) (K : Int32 → Hp → Prop) (hv : VX4_isWord K σ a1) : yMet l w xcf 55 yX4_isWord cX4_isWord 3 (some .boolean) 6 [.ref (w.1 38), .ref (w.2.2.2.1 a1)] σ (yQi w xcf 55 K) := by
  unfold VX4_isWord at hv
  refine y_start (lv0 := [(0, .ref (w.1 38)), (1, .ref (w.2.2.2.1 a1))]) (by decide +kernel) (own := RX4) rfl hw (Nat.le_of_ble_eq_true rfl) rfl (fun p e s m below meth c A E => ?_)
  obtain ⟨hsa1, hv⟩ := hv
  have hL20 : ∀ (n20 : Nat) (σ : Hp) (l2 : Int32), VX4_isWord_L20 K a1 n20 σ l2 → YY p l e (yRm 6) s m [.ref (w.1 38), .ref (w.2.2.2.1 a1)].toArray below meth c w xcf 55 A (MQ below (yQi w xcf 55 K A) [.ref (w.1 38), .ref (w.2.2.2.1 a1)].toArray s 0 0 A) 3 σ 20 [(0, .ref (w.1 38)), (1, .ref (w.2.2.2.1 a1)), (2, .int l2)] [] := by
    intro n20
    induction n20 with
    | zero => exact fun _ _ hv => (by unfold VX4_isWord_L20 at hv; exact hv.elim)
    | succ n20 ih20 =>
      intro σ l2 hv
      unfold VX4_isWord_L20 at hv
      refine y_iload_n E dX4_isWord_20 2 rfl ?_
      refine y_aload_n E dX4_isWord_21 1 rfl ?_
      refine y_calli E (rS_length E (by decide) hv wm_227 (Nat.le_of_ble_eq_true rfl) dX4_isWord_22) (fun v4 u5 hk => ?_)
      clear hv
      have hv := hk
      clear hk
      refine y_icmp_ge (tgt := 55) E dX4_isWord_25 (by decide) (fun c6 => ?_) (fun c6 => ?_)
      · replace hv := ite_t hv c6
        refine y_iconst (v := 1) E dX4_isWord_55 (by decide) ?_
        exact y_nret E dX4_isWord_56 (by decide) hv
      · replace hv := ite_f hv c6
        refine y_aload_n E dX4_isWord_28 0 rfl ?_
        refine gf_X4_0 E (by decide) (by decide) wm_147 dX4_isWord_29 ?_
        refine y_aload_n E dX4_isWord_32 0 rfl ?_
        refine gf_X4_3 E (by decide) (by decide) wm_205 dX4_isWord_33 ?_
        refine y_iload_n E dX4_isWord_36 2 rfl ?_
        refine y_iadd E dX4_isWord_37 ?_
        obtain ⟨hi, hv⟩ := hv
        refine y_bald E (Nat.lt_of_lt_of_le (show 39 < 40 by decide) (by decide)) (xc_bytes (by decide) (by decide)) hi dX4_isWord_38 ?_
        refine y_aload_n E dX4_isWord_39 1 rfl ?_
        refine y_iload_n E dX4_isWord_40 2 rfl ?_
        refine y_calli E (rS_charAt E (by decide) hv wm_228 (Nat.le_of_ble_eq_true rfl) dX4_isWord_41) (fun v7 u8 hk => ?_)
        clear hv
        have hv := hk
        clear hk
        refine y_icmp_eq (tgt := 49) E dX4_isWord_44 (by decide) (fun c9 => ?_) (fun c9 => ?_)
        · replace hv := ite_t hv c9
          obtain ⟨x10, hx10⟩ : ∃ z : Int32, z = l2 + 1 := ⟨_, rfl⟩
          replace hv := hv x10 hx10
          refine y_iinc (v := x10) (lv' := [(2, .int x10), (0, .ref (w.1 38)), (1, .ref (w.2.2.2.1 a1))]) E dX4_isWord_49 2 rfl (by rw [hx10]; rfl) (by decide) rfl ?_
          refine y_goto (tgt := 20) E dX4_isWord_52 (by decide) ?_
          refine y_lv (lv' := [(0, .ref (w.1 38)), (1, .ref (w.2.2.2.1 a1)), (2, .int x10)]) [1, 2, 0] rfl ?_
          exact ih20 u8 x10 hv
        · replace hv := ite_f hv c9
          refine y_iconst (v := 0) E dX4_isWord_47 (by decide) ?_
          exact y_nret E dX4_isWord_48 (by decide) hv
  refine y_aload_n E dX4_isWord_0 1 rfl ?_
  refine y_calli E (rS_length E (by decide) hv wm_227 (Nat.le_of_ble_eq_true rfl) dX4_isWord_1) (fun v1 u2 hk => ?_)
  clear hv
  have hv := hk
  clear hk
  refine y_aload_n E dX4_isWord_4 0 rfl ?_
  refine gf_X4_4 E (by decide) (by decide) wm_151 dX4_isWord_5 ?_
  refine y_aload_n E dX4_isWord_8 0 rfl ?_
  refine gf_X4_3 E (by decide) (by decide) wm_205 dX4_isWord_9 ?_
  refine y_isub E dX4_isWord_12 ?_
  refine y_icmp_eq (tgt := 18) E dX4_isWord_13 (by decide) (fun c3 => ?_) (fun c3 => ?_)
  · replace hv := ite_t hv c3
    refine y_iconst (v := 0) E dX4_isWord_18 (by decide) ?_
    refine y_istore_n (lv' := [(2, .int 0), (0, .ref (w.1 38)), (1, .ref (w.2.2.2.1 a1))]) E dX4_isWord_19 (by decide) rfl ?_
    refine y_lv (lv' := [(0, .ref (w.1 38)), (1, .ref (w.2.2.2.1 a1)), (2, .int 0)]) [1, 2, 0] rfl ?_
    obtain ⟨n0, hv⟩ := hv
    exact hL20 n0 u2 0 hv
  · replace hv := ite_f hv c3
    refine y_iconst (v := 0) E dX4_isWord_16 (by decide) ?_
    exact y_nret E dX4_isWord_17 (by decide) hv
theorem dX4_goOnWord_0 : decode cX4_goOnWord 0 = .ok (.aload_n 0, 1) := by decide +kernel
theorem dX4_goOnWord_1 : decode cX4_goOnWord 1 = .ok (.getfield 31, 3) := by decide +kernel
theorem dX4_goOnWord_4 : decode cX4_goOnWord 4 = .ok (.aload_n 0, 1) := by decide +kernel
theorem dX4_goOnWord_5 : decode cX4_goOnWord 5 = .ok (.getfield 15, 3) := by decide +kernel
theorem dX4_goOnWord_8 : decode cX4_goOnWord 8 = .ok (.if_icmp .ge 31, 3) := by decide +kernel
theorem dX4_goOnWord_11 : decode cX4_goOnWord 11 = .ok (.aload_n 0, 1) := by decide +kernel
theorem dX4_goOnWord_12 : decode cX4_goOnWord 12 = .ok (.getfield 9, 3) := by decide +kernel
theorem dX4_goOnWord_15 : decode cX4_goOnWord 15 = .ok (.aload_n 0, 1) := by decide +kernel
theorem dX4_goOnWord_16 : decode cX4_goOnWord 16 = .ok (.getfield 31, 3) := by decide +kernel
theorem dX4_goOnWord_19 : decode cX4_goOnWord 19 = .ok (.baload, 1) := by decide +kernel
theorem dX4_goOnWord_20 : decode cX4_goOnWord 20 = .ok (.invokestatic 84, 3) := by decide +kernel
theorem dX4_goOnWord_23 : decode cX4_goOnWord 23 = .ok (.ifCond .eq 16, 3) := by decide +kernel
theorem dX4_goOnWord_26 : decode cX4_goOnWord 26 = .ok (.aload_n 0, 1) := by decide +kernel
theorem dX4_goOnWord_27 : decode cX4_goOnWord 27 = .ok (.dup, 1) := by decide +kernel
theorem dX4_goOnWord_28 : decode cX4_goOnWord 28 = .ok (.getfield 31, 3) := by decide +kernel
theorem dX4_goOnWord_31 : decode cX4_goOnWord 31 = .ok (.iconst 1, 1) := by decide +kernel
theorem dX4_goOnWord_32 : decode cX4_goOnWord 32 = .ok (.iadd, 1) := by decide +kernel
theorem dX4_goOnWord_33 : decode cX4_goOnWord 33 = .ok (.putfield 31, 3) := by decide +kernel
theorem dX4_goOnWord_36 : decode cX4_goOnWord 36 = .ok (.goto (-36), 3) := by decide +kernel
theorem dX4_goOnWord_39 : decode cX4_goOnWord 39 = .ok (.aload_n 0, 1) := by decide +kernel
theorem dX4_goOnWord_40 : decode cX4_goOnWord 40 = .ok (.aload_n 0, 1) := by decide +kernel
theorem dX4_goOnWord_41 : decode cX4_goOnWord 41 = .ok (.ldc 94, 2) := by decide +kernel
theorem dX4_goOnWord_43 : decode cX4_goOnWord 43 = .ok (.invokevirtual 96, 3) := by decide +kernel
theorem dX4_goOnWord_46 : decode cX4_goOnWord 46 = .ok (.ifCond .eq 7, 3) := by decide +kernel
theorem dX4_goOnWord_49 : decode cX4_goOnWord 49 = .ok (.iconst (-1), 1) := by decide +kernel
theorem dX4_goOnWord_50 : decode cX4_goOnWord 50 = .ok (.goto 159, 3) := by decide +kernel
theorem dX4_goOnWord_53 : decode cX4_goOnWord 53 = .ok (.aload_n 0, 1) := by decide +kernel
theorem dX4_goOnWord_54 : decode cX4_goOnWord 54 = .ok (.ldc 100, 2) := by decide +kernel
theorem dX4_goOnWord_56 : decode cX4_goOnWord 56 = .ok (.invokevirtual 96, 3) := by decide +kernel
theorem dX4_goOnWord_59 : decode cX4_goOnWord 59 = .ok (.ifCond .eq 8, 3) := by decide +kernel
theorem dX4_goOnWord_62 : decode cX4_goOnWord 62 = .ok (.bipush (-2), 2) := by decide +kernel
theorem dX4_goOnWord_64 : decode cX4_goOnWord 64 = .ok (.goto 145, 3) := by decide +kernel
theorem dX4_goOnWord_67 : decode cX4_goOnWord 67 = .ok (.aload_n 0, 1) := by decide +kernel
theorem dX4_goOnWord_68 : decode cX4_goOnWord 68 = .ok (.ldc 102, 2) := by decide +kernel
theorem dX4_goOnWord_70 : decode cX4_goOnWord 70 = .ok (.invokevirtual 96, 3) := by decide +kernel
theorem dX4_goOnWord_73 : decode cX4_goOnWord 73 = .ok (.ifCond .eq 8, 3) := by decide +kernel
theorem dX4_goOnWord_76 : decode cX4_goOnWord 76 = .ok (.bipush (-3), 2) := by decide +kernel
theorem dX4_goOnWord_78 : decode cX4_goOnWord 78 = .ok (.goto 131, 3) := by decide +kernel
theorem dX4_goOnWord_81 : decode cX4_goOnWord 81 = .ok (.aload_n 0, 1) := by decide +kernel
theorem dX4_goOnWord_82 : decode cX4_goOnWord 82 = .ok (.ldc 104, 2) := by decide +kernel
theorem dX4_goOnWord_84 : decode cX4_goOnWord 84 = .ok (.invokevirtual 96, 3) := by decide +kernel
theorem dX4_goOnWord_87 : decode cX4_goOnWord 87 = .ok (.ifCond .eq 8, 3) := by decide +kernel
theorem dX4_goOnWord_90 : decode cX4_goOnWord 90 = .ok (.bipush (-4), 2) := by decide +kernel
theorem dX4_goOnWord_92 : decode cX4_goOnWord 92 = .ok (.goto 117, 3) := by decide +kernel
theorem dX4_goOnWord_95 : decode cX4_goOnWord 95 = .ok (.aload_n 0, 1) := by decide +kernel
theorem dX4_goOnWord_96 : decode cX4_goOnWord 96 = .ok (.ldc 106, 2) := by decide +kernel
theorem dX4_goOnWord_98 : decode cX4_goOnWord 98 = .ok (.invokevirtual 96, 3) := by decide +kernel
theorem dX4_goOnWord_101 : decode cX4_goOnWord 101 = .ok (.ifCond .eq 8, 3) := by decide +kernel
theorem dX4_goOnWord_104 : decode cX4_goOnWord 104 = .ok (.bipush (-5), 2) := by decide +kernel
theorem dX4_goOnWord_106 : decode cX4_goOnWord 106 = .ok (.goto 103, 3) := by decide +kernel
theorem dX4_goOnWord_109 : decode cX4_goOnWord 109 = .ok (.aload_n 0, 1) := by decide +kernel
theorem dX4_goOnWord_110 : decode cX4_goOnWord 110 = .ok (.ldc 108, 2) := by decide +kernel
theorem dX4_goOnWord_112 : decode cX4_goOnWord 112 = .ok (.invokevirtual 96, 3) := by decide +kernel
theorem dX4_goOnWord_115 : decode cX4_goOnWord 115 = .ok (.ifCond .eq 8, 3) := by decide +kernel
theorem dX4_goOnWord_118 : decode cX4_goOnWord 118 = .ok (.bipush (-6), 2) := by decide +kernel
theorem dX4_goOnWord_120 : decode cX4_goOnWord 120 = .ok (.goto 89, 3) := by decide +kernel
theorem dX4_goOnWord_123 : decode cX4_goOnWord 123 = .ok (.aload_n 0, 1) := by decide +kernel
theorem dX4_goOnWord_124 : decode cX4_goOnWord 124 = .ok (.ldc 110, 2) := by decide +kernel
theorem dX4_goOnWord_126 : decode cX4_goOnWord 126 = .ok (.invokevirtual 96, 3) := by decide +kernel
theorem dX4_goOnWord_129 : decode cX4_goOnWord 129 = .ok (.ifCond .eq 8, 3) := by decide +kernel
theorem dX4_goOnWord_132 : decode cX4_goOnWord 132 = .ok (.bipush (-15), 2) := by decide +kernel
theorem dX4_goOnWord_134 : decode cX4_goOnWord 134 = .ok (.goto 75, 3) := by decide +kernel
theorem dX4_goOnWord_137 : decode cX4_goOnWord 137 = .ok (.aload_n 0, 1) := by decide +kernel
theorem dX4_goOnWord_138 : decode cX4_goOnWord 138 = .ok (.ldc 112, 2) := by decide +kernel
theorem dX4_goOnWord_140 : decode cX4_goOnWord 140 = .ok (.invokevirtual 96, 3) := by decide +kernel
theorem dX4_goOnWord_143 : decode cX4_goOnWord 143 = .ok (.ifCond .eq 8, 3) := by decide +kernel
theorem dX4_goOnWord_146 : decode cX4_goOnWord 146 = .ok (.bipush (-14), 2) := by decide +kernel
theorem dX4_goOnWord_148 : decode cX4_goOnWord 148 = .ok (.goto 61, 3) := by decide +kernel
theorem dX4_goOnWord_151 : decode cX4_goOnWord 151 = .ok (.aload_n 0, 1) := by decide +kernel
theorem dX4_goOnWord_152 : decode cX4_goOnWord 152 = .ok (.ldc 114, 2) := by decide +kernel
theorem dX4_goOnWord_154 : decode cX4_goOnWord 154 = .ok (.invokevirtual 96, 3) := by decide +kernel
theorem dX4_goOnWord_157 : decode cX4_goOnWord 157 = .ok (.ifCond .eq 8, 3) := by decide +kernel
theorem dX4_goOnWord_160 : decode cX4_goOnWord 160 = .ok (.bipush (-7), 2) := by decide +kernel
theorem dX4_goOnWord_162 : decode cX4_goOnWord 162 = .ok (.goto 47, 3) := by decide +kernel
theorem dX4_goOnWord_165 : decode cX4_goOnWord 165 = .ok (.aload_n 0, 1) := by decide +kernel
theorem dX4_goOnWord_166 : decode cX4_goOnWord 166 = .ok (.ldc 116, 2) := by decide +kernel
theorem dX4_goOnWord_168 : decode cX4_goOnWord 168 = .ok (.invokevirtual 96, 3) := by decide +kernel
theorem dX4_goOnWord_171 : decode cX4_goOnWord 171 = .ok (.ifCond .eq 8, 3) := by decide +kernel
theorem dX4_goOnWord_174 : decode cX4_goOnWord 174 = .ok (.bipush (-23), 2) := by decide +kernel
theorem dX4_goOnWord_176 : decode cX4_goOnWord 176 = .ok (.goto 33, 3) := by decide +kernel
theorem dX4_goOnWord_179 : decode cX4_goOnWord 179 = .ok (.aload_n 0, 1) := by decide +kernel
theorem dX4_goOnWord_180 : decode cX4_goOnWord 180 = .ok (.ldc 118, 2) := by decide +kernel
theorem dX4_goOnWord_182 : decode cX4_goOnWord 182 = .ok (.invokevirtual 96, 3) := by decide +kernel
theorem dX4_goOnWord_185 : decode cX4_goOnWord 185 = .ok (.ifCond .eq 8, 3) := by decide +kernel
theorem dX4_goOnWord_188 : decode cX4_goOnWord 188 = .ok (.bipush (-24), 2) := by decide +kernel
theorem dX4_goOnWord_190 : decode cX4_goOnWord 190 = .ok (.goto 19, 3) := by decide +kernel
theorem dX4_goOnWord_193 : decode cX4_goOnWord 193 = .ok (.aload_n 0, 1) := by decide +kernel
theorem dX4_goOnWord_194 : decode cX4_goOnWord 194 = .ok (.ldc 120, 2) := by decide +kernel
theorem dX4_goOnWord_196 : decode cX4_goOnWord 196 = .ok (.invokevirtual 96, 3) := by decide +kernel
theorem dX4_goOnWord_199 : decode cX4_goOnWord 199 = .ok (.ifCond .eq 8, 3) := by decide +kernel
theorem dX4_goOnWord_202 : decode cX4_goOnWord 202 = .ok (.bipush (-25), 2) := by decide +kernel
theorem dX4_goOnWord_204 : decode cX4_goOnWord 204 = .ok (.goto 5, 3) := by decide +kernel
theorem dX4_goOnWord_207 : decode cX4_goOnWord 207 = .ok (.bipush (-31), 2) := by decide +kernel
theorem dX4_goOnWord_209 : decode cX4_goOnWord 209 = .ok (.putfield 53, 3) := by decide +kernel
theorem dX4_goOnWord_212 : decode cX4_goOnWord 212 = .ok (.return_, 1) := by decide +kernel
set_option maxRecDepth 100000 in
set_option maxHeartbeats 4000000 in
theorem kX4_goOnWord (l : Launch) (w : wT) (hw : yOk w 55) (σ : Hp)  (K : Hp → Prop) (hv : VX4_goOnWord K σ ) : yMet l w xcf 55 yX4_goOnWord cX4_goOnWord 1 none 7 [.ref (w.1 38)] σ (yQv w xcf 55 K) := by
  unfold VX4_goOnWord at hv
  refine y_start (lv0 := [(0, .ref (w.1 38))]) (by decide +kernel) (own := RX4) rfl hw (Nat.le_of_ble_eq_true rfl) rfl (fun p e s m below meth c A E => ?_)
  have hb39 : ∀ (σ : Hp), VX4_goOnWord_b39 K σ → YY p l e (yRm 7) s m [.ref (w.1 38)].toArray below meth c w xcf 55 A (MQ below (yQv w xcf 55 K A) [.ref (w.1 38)].toArray s 0 0 A) 1 σ 39 [(0, .ref (w.1 38))] [] := by
    intro σ hv
    unfold VX4_goOnWord_b39 at hv
    refine y_aload_n E dX4_goOnWord_39 0 rfl ?_
    refine y_aload_n E dX4_goOnWord_40 0 rfl ?_
    refine y_ldcS E 0 (by decide) (by decide) dX4_goOnWord_41 ?_
    refine y_calli E (y_runV E (rest := [.ref (w.1 38)]) (kX4_isWord l w E.2.2.1 σ 0 _ hv) (y_cwV 1 E.1.2.2.2.2 wm_223 wm_224 wm_225 wm_157 wm_226 (by decide +kernel) (yRm_le (by decide) (by decide))) (Nat.lt_of_lt_of_le (show 38 < 39 by decide) (by decide)) (xc_X4 (by decide) (by decide)) rfl rfl rfl (Nat.le_of_ble_eq_true rfl) dX4_goOnWord_43) (fun v6 u7 hk => ?_)
    clear hv
    have hv := hk
    clear hk
    refine y_if_eq (tgt := 53) E dX4_goOnWord_46 (by decide) (fun c8 => ?_) (fun c8 => ?_)
    · replace hv := ite_t hv c8
      refine y_aload_n E dX4_goOnWord_53 0 rfl ?_
      refine y_ldcS E 1 (by decide) (by decide) dX4_goOnWord_54 ?_
      refine y_calli E (y_runV E (rest := [.ref (w.1 38)]) (kX4_isWord l w E.2.2.1 u7 1 _ hv) (y_cwV 1 E.1.2.2.2.2 wm_223 wm_224 wm_225 wm_157 wm_226 (by decide +kernel) (yRm_le (by decide) (by decide))) (Nat.lt_of_lt_of_le (show 38 < 39 by decide) (by decide)) (xc_X4 (by decide) (by decide)) rfl rfl rfl (Nat.le_of_ble_eq_true rfl) dX4_goOnWord_56) (fun v9 u10 hk => ?_)
      clear hv
      have hv := hk
      clear hk
      refine y_if_eq (tgt := 67) E dX4_goOnWord_59 (by decide) (fun c11 => ?_) (fun c11 => ?_)
      · replace hv := ite_t hv c11
        refine y_aload_n E dX4_goOnWord_67 0 rfl ?_
        refine y_ldcS E 2 (by decide) (by decide) dX4_goOnWord_68 ?_
        refine y_calli E (y_runV E (rest := [.ref (w.1 38)]) (kX4_isWord l w E.2.2.1 u10 2 _ hv) (y_cwV 1 E.1.2.2.2.2 wm_223 wm_224 wm_225 wm_157 wm_226 (by decide +kernel) (yRm_le (by decide) (by decide))) (Nat.lt_of_lt_of_le (show 38 < 39 by decide) (by decide)) (xc_X4 (by decide) (by decide)) rfl rfl rfl (Nat.le_of_ble_eq_true rfl) dX4_goOnWord_70) (fun v12 u13 hk => ?_)
        clear hv
        have hv := hk
        clear hk
        refine y_if_eq (tgt := 81) E dX4_goOnWord_73 (by decide) (fun c14 => ?_) (fun c14 => ?_)
        · replace hv := ite_t hv c14
          refine y_aload_n E dX4_goOnWord_81 0 rfl ?_
          refine y_ldcS E 3 (by decide) (by decide) dX4_goOnWord_82 ?_
          refine y_calli E (y_runV E (rest := [.ref (w.1 38)]) (kX4_isWord l w E.2.2.1 u13 3 _ hv) (y_cwV 1 E.1.2.2.2.2 wm_223 wm_224 wm_225 wm_157 wm_226 (by decide +kernel) (yRm_le (by decide) (by decide))) (Nat.lt_of_lt_of_le (show 38 < 39 by decide) (by decide)) (xc_X4 (by decide) (by decide)) rfl rfl rfl (Nat.le_of_ble_eq_true rfl) dX4_goOnWord_84) (fun v15 u16 hk => ?_)
          clear hv
          have hv := hk
          clear hk
          refine y_if_eq (tgt := 95) E dX4_goOnWord_87 (by decide) (fun c17 => ?_) (fun c17 => ?_)
          · replace hv := ite_t hv c17
            refine y_aload_n E dX4_goOnWord_95 0 rfl ?_
            refine y_ldcS E 4 (by decide) (by decide) dX4_goOnWord_96 ?_
            refine y_calli E (y_runV E (rest := [.ref (w.1 38)]) (kX4_isWord l w E.2.2.1 u16 4 _ hv) (y_cwV 1 E.1.2.2.2.2 wm_223 wm_224 wm_225 wm_157 wm_226 (by decide +kernel) (yRm_le (by decide) (by decide))) (Nat.lt_of_lt_of_le (show 38 < 39 by decide) (by decide)) (xc_X4 (by decide) (by decide)) rfl rfl rfl (Nat.le_of_ble_eq_true rfl) dX4_goOnWord_98) (fun v18 u19 hk => ?_)
            clear hv
            have hv := hk
            clear hk
            refine y_if_eq (tgt := 109) E dX4_goOnWord_101 (by decide) (fun c20 => ?_) (fun c20 => ?_)
            · replace hv := ite_t hv c20
              refine y_aload_n E dX4_goOnWord_109 0 rfl ?_
              refine y_ldcS E 5 (by decide) (by decide) dX4_goOnWord_110 ?_
              refine y_calli E (y_runV E (rest := [.ref (w.1 38)]) (kX4_isWord l w E.2.2.1 u19 5 _ hv) (y_cwV 1 E.1.2.2.2.2 wm_223 wm_224 wm_225 wm_157 wm_226 (by decide +kernel) (yRm_le (by decide) (by decide))) (Nat.lt_of_lt_of_le (show 38 < 39 by decide) (by decide)) (xc_X4 (by decide) (by decide)) rfl rfl rfl (Nat.le_of_ble_eq_true rfl) dX4_goOnWord_112) (fun v21 u22 hk => ?_)
              clear hv
              have hv := hk
              clear hk
              refine y_if_eq (tgt := 123) E dX4_goOnWord_115 (by decide) (fun c23 => ?_) (fun c23 => ?_)
              · replace hv := ite_t hv c23
                refine y_aload_n E dX4_goOnWord_123 0 rfl ?_
                refine y_ldcS E 6 (by decide) (by decide) dX4_goOnWord_124 ?_
                refine y_calli E (y_runV E (rest := [.ref (w.1 38)]) (kX4_isWord l w E.2.2.1 u22 6 _ hv) (y_cwV 1 E.1.2.2.2.2 wm_223 wm_224 wm_225 wm_157 wm_226 (by decide +kernel) (yRm_le (by decide) (by decide))) (Nat.lt_of_lt_of_le (show 38 < 39 by decide) (by decide)) (xc_X4 (by decide) (by decide)) rfl rfl rfl (Nat.le_of_ble_eq_true rfl) dX4_goOnWord_126) (fun v24 u25 hk => ?_)
                clear hv
                have hv := hk
                clear hk
                refine y_if_eq (tgt := 137) E dX4_goOnWord_129 (by decide) (fun c26 => ?_) (fun c26 => ?_)
                · replace hv := ite_t hv c26
                  refine y_aload_n E dX4_goOnWord_137 0 rfl ?_
                  refine y_ldcS E 7 (by decide) (by decide) dX4_goOnWord_138 ?_
                  refine y_calli E (y_runV E (rest := [.ref (w.1 38)]) (kX4_isWord l w E.2.2.1 u25 7 _ hv) (y_cwV 1 E.1.2.2.2.2 wm_223 wm_224 wm_225 wm_157 wm_226 (by decide +kernel) (yRm_le (by decide) (by decide))) (Nat.lt_of_lt_of_le (show 38 < 39 by decide) (by decide)) (xc_X4 (by decide) (by decide)) rfl rfl rfl (Nat.le_of_ble_eq_true rfl) dX4_goOnWord_140) (fun v27 u28 hk => ?_)
                  clear hv
                  have hv := hk
                  clear hk
                  refine y_if_eq (tgt := 151) E dX4_goOnWord_143 (by decide) (fun c29 => ?_) (fun c29 => ?_)
                  · replace hv := ite_t hv c29
                    refine y_aload_n E dX4_goOnWord_151 0 rfl ?_
                    refine y_ldcS E 8 (by decide) (by decide) dX4_goOnWord_152 ?_
                    refine y_calli E (y_runV E (rest := [.ref (w.1 38)]) (kX4_isWord l w E.2.2.1 u28 8 _ hv) (y_cwV 1 E.1.2.2.2.2 wm_223 wm_224 wm_225 wm_157 wm_226 (by decide +kernel) (yRm_le (by decide) (by decide))) (Nat.lt_of_lt_of_le (show 38 < 39 by decide) (by decide)) (xc_X4 (by decide) (by decide)) rfl rfl rfl (Nat.le_of_ble_eq_true rfl) dX4_goOnWord_154) (fun v30 u31 hk => ?_)
                    clear hv
                    have hv := hk
                    clear hk
                    refine y_if_eq (tgt := 165) E dX4_goOnWord_157 (by decide) (fun c32 => ?_) (fun c32 => ?_)
                    · replace hv := ite_t hv c32
                      refine y_aload_n E dX4_goOnWord_165 0 rfl ?_
                      refine y_ldcS E 9 (by decide) (by decide) dX4_goOnWord_166 ?_
                      refine y_calli E (y_runV E (rest := [.ref (w.1 38)]) (kX4_isWord l w E.2.2.1 u31 9 _ hv) (y_cwV 1 E.1.2.2.2.2 wm_223 wm_224 wm_225 wm_157 wm_226 (by decide +kernel) (yRm_le (by decide) (by decide))) (Nat.lt_of_lt_of_le (show 38 < 39 by decide) (by decide)) (xc_X4 (by decide) (by decide)) rfl rfl rfl (Nat.le_of_ble_eq_true rfl) dX4_goOnWord_168) (fun v33 u34 hk => ?_)
                      clear hv
                      have hv := hk
                      clear hk
                      refine y_if_eq (tgt := 179) E dX4_goOnWord_171 (by decide) (fun c35 => ?_) (fun c35 => ?_)
                      · replace hv := ite_t hv c35
                        refine y_aload_n E dX4_goOnWord_179 0 rfl ?_
                        refine y_ldcS E 10 (by decide) (by decide) dX4_goOnWord_180 ?_
                        refine y_calli E (y_runV E (rest := [.ref (w.1 38)]) (kX4_isWord l w E.2.2.1 u34 10 _ hv) (y_cwV 1 E.1.2.2.2.2 wm_223 wm_224 wm_225 wm_157 wm_226 (by decide +kernel) (yRm_le (by decide) (by decide))) (Nat.lt_of_lt_of_le (show 38 < 39 by decide) (by decide)) (xc_X4 (by decide) (by decide)) rfl rfl rfl (Nat.le_of_ble_eq_true rfl) dX4_goOnWord_182) (fun v36 u37 hk => ?_)
                        clear hv
                        have hv := hk
                        clear hk
                        refine y_if_eq (tgt := 193) E dX4_goOnWord_185 (by decide) (fun c38 => ?_) (fun c38 => ?_)
                        · replace hv := ite_t hv c38
                          refine y_aload_n E dX4_goOnWord_193 0 rfl ?_
                          refine y_ldcS E 11 (by decide) (by decide) dX4_goOnWord_194 ?_
                          refine y_calli E (y_runV E (rest := [.ref (w.1 38)]) (kX4_isWord l w E.2.2.1 u37 11 _ hv) (y_cwV 1 E.1.2.2.2.2 wm_223 wm_224 wm_225 wm_157 wm_226 (by decide +kernel) (yRm_le (by decide) (by decide))) (Nat.lt_of_lt_of_le (show 38 < 39 by decide) (by decide)) (xc_X4 (by decide) (by decide)) rfl rfl rfl (Nat.le_of_ble_eq_true rfl) dX4_goOnWord_196) (fun v39 u40 hk => ?_)
                          clear hv
                          have hv := hk
                          clear hk
                          refine y_if_eq (tgt := 207) E dX4_goOnWord_199 (by decide) (fun c41 => ?_) (fun c41 => ?_)
                          · replace hv := ite_t hv c41
                            refine y_bipush (v := (-31)) E dX4_goOnWord_207 (by decide) ?_
                            refine pf_X4_2 E (by decide) (by decide) wm_180 dX4_goOnWord_209 ?_
                            refine y_nmH (fun u42 hu42 => ?_)
                            replace hv := hv u42 hu42
                            exact y_vret E dX4_goOnWord_212 hv
                          · replace hv := ite_f hv c41
                            refine y_bipush (v := (-25)) E dX4_goOnWord_202 (by decide) ?_
                            refine y_goto (tgt := 209) E dX4_goOnWord_204 (by decide) ?_
                            refine pf_X4_2 E (by decide) (by decide) wm_180 dX4_goOnWord_209 ?_
                            refine y_nmH (fun u43 hu43 => ?_)
                            replace hv := hv u43 hu43
                            exact y_vret E dX4_goOnWord_212 hv
                        · replace hv := ite_f hv c38
                          refine y_bipush (v := (-24)) E dX4_goOnWord_188 (by decide) ?_
                          refine y_goto (tgt := 209) E dX4_goOnWord_190 (by decide) ?_
                          refine pf_X4_2 E (by decide) (by decide) wm_180 dX4_goOnWord_209 ?_
                          refine y_nmH (fun u44 hu44 => ?_)
                          replace hv := hv u44 hu44
                          exact y_vret E dX4_goOnWord_212 hv
                      · replace hv := ite_f hv c35
                        refine y_bipush (v := (-23)) E dX4_goOnWord_174 (by decide) ?_
                        refine y_goto (tgt := 209) E dX4_goOnWord_176 (by decide) ?_
                        refine pf_X4_2 E (by decide) (by decide) wm_180 dX4_goOnWord_209 ?_
                        refine y_nmH (fun u45 hu45 => ?_)
                        replace hv := hv u45 hu45
                        exact y_vret E dX4_goOnWord_212 hv
                    · replace hv := ite_f hv c32
                      refine y_bipush (v := (-7)) E dX4_goOnWord_160 (by decide) ?_
                      refine y_goto (tgt := 209) E dX4_goOnWord_162 (by decide) ?_
                      refine pf_X4_2 E (by decide) (by decide) wm_180 dX4_goOnWord_209 ?_
                      refine y_nmH (fun u46 hu46 => ?_)
                      replace hv := hv u46 hu46
                      exact y_vret E dX4_goOnWord_212 hv
                  · replace hv := ite_f hv c29
                    refine y_bipush (v := (-14)) E dX4_goOnWord_146 (by decide) ?_
                    refine y_goto (tgt := 209) E dX4_goOnWord_148 (by decide) ?_
                    refine pf_X4_2 E (by decide) (by decide) wm_180 dX4_goOnWord_209 ?_
                    refine y_nmH (fun u47 hu47 => ?_)
                    replace hv := hv u47 hu47
                    exact y_vret E dX4_goOnWord_212 hv
                · replace hv := ite_f hv c26
                  refine y_bipush (v := (-15)) E dX4_goOnWord_132 (by decide) ?_
                  refine y_goto (tgt := 209) E dX4_goOnWord_134 (by decide) ?_
                  refine pf_X4_2 E (by decide) (by decide) wm_180 dX4_goOnWord_209 ?_
                  refine y_nmH (fun u48 hu48 => ?_)
                  replace hv := hv u48 hu48
                  exact y_vret E dX4_goOnWord_212 hv
              · replace hv := ite_f hv c23
                refine y_bipush (v := (-6)) E dX4_goOnWord_118 (by decide) ?_
                refine y_goto (tgt := 209) E dX4_goOnWord_120 (by decide) ?_
                refine pf_X4_2 E (by decide) (by decide) wm_180 dX4_goOnWord_209 ?_
                refine y_nmH (fun u49 hu49 => ?_)
                replace hv := hv u49 hu49
                exact y_vret E dX4_goOnWord_212 hv
            · replace hv := ite_f hv c20
              refine y_bipush (v := (-5)) E dX4_goOnWord_104 (by decide) ?_
              refine y_goto (tgt := 209) E dX4_goOnWord_106 (by decide) ?_
              refine pf_X4_2 E (by decide) (by decide) wm_180 dX4_goOnWord_209 ?_
              refine y_nmH (fun u50 hu50 => ?_)
              replace hv := hv u50 hu50
              exact y_vret E dX4_goOnWord_212 hv
          · replace hv := ite_f hv c17
            refine y_bipush (v := (-4)) E dX4_goOnWord_90 (by decide) ?_
            refine y_goto (tgt := 209) E dX4_goOnWord_92 (by decide) ?_
            refine pf_X4_2 E (by decide) (by decide) wm_180 dX4_goOnWord_209 ?_
            refine y_nmH (fun u51 hu51 => ?_)
            replace hv := hv u51 hu51
            exact y_vret E dX4_goOnWord_212 hv
        · replace hv := ite_f hv c14
          refine y_bipush (v := (-3)) E dX4_goOnWord_76 (by decide) ?_
          refine y_goto (tgt := 209) E dX4_goOnWord_78 (by decide) ?_
          refine pf_X4_2 E (by decide) (by decide) wm_180 dX4_goOnWord_209 ?_
          refine y_nmH (fun u52 hu52 => ?_)
          replace hv := hv u52 hu52
          exact y_vret E dX4_goOnWord_212 hv
      · replace hv := ite_f hv c11
        refine y_bipush (v := (-2)) E dX4_goOnWord_62 (by decide) ?_
        refine y_goto (tgt := 209) E dX4_goOnWord_64 (by decide) ?_
        refine pf_X4_2 E (by decide) (by decide) wm_180 dX4_goOnWord_209 ?_
        refine y_nmH (fun u53 hu53 => ?_)
        replace hv := hv u53 hu53
        exact y_vret E dX4_goOnWord_212 hv
    · replace hv := ite_f hv c8
      refine y_iconst (v := (-1)) E dX4_goOnWord_49 (by decide) ?_
      refine y_goto (tgt := 209) E dX4_goOnWord_50 (by decide) ?_
      refine pf_X4_2 E (by decide) (by decide) wm_180 dX4_goOnWord_209 ?_
      refine y_nmH (fun u54 hu54 => ?_)
      replace hv := hv u54 hu54
      exact y_vret E dX4_goOnWord_212 hv
  have hL0 : ∀ (n0 : Nat) (σ : Hp), VX4_goOnWord_L0 K n0 σ → YY p l e (yRm 7) s m [.ref (w.1 38)].toArray below meth c w xcf 55 A (MQ below (yQv w xcf 55 K A) [.ref (w.1 38)].toArray s 0 0 A) 1 σ 0 [(0, .ref (w.1 38))] [] := by
    intro n0
    induction n0 with
    | zero => exact fun _ hv => (by unfold VX4_goOnWord_L0 at hv; exact hv.elim)
    | succ n0 ih0 =>
      intro σ hv
      unfold VX4_goOnWord_L0 at hv
      refine y_aload_n E dX4_goOnWord_0 0 rfl ?_
      refine gf_X4_4 E (by decide) (by decide) wm_151 dX4_goOnWord_1 ?_
      refine y_aload_n E dX4_goOnWord_4 0 rfl ?_
      refine gf_X4_1 E (by decide) (by decide) wm_146 dX4_goOnWord_5 ?_
      refine y_icmp_ge (tgt := 39) E dX4_goOnWord_8 (by decide) (fun c1 => ?_) (fun c1 => ?_)
      · replace hv := ite_t hv c1
        exact hb39 σ hv
      · replace hv := ite_f hv c1
        refine y_aload_n E dX4_goOnWord_11 0 rfl ?_
        refine gf_X4_0 E (by decide) (by decide) wm_147 dX4_goOnWord_12 ?_
        refine y_aload_n E dX4_goOnWord_15 0 rfl ?_
        refine gf_X4_4 E (by decide) (by decide) wm_151 dX4_goOnWord_16 ?_
        obtain ⟨hi, hv⟩ := hv
        refine y_bald E (Nat.lt_of_lt_of_le (show 39 < 40 by decide) (by decide)) (xc_bytes (by decide) (by decide)) hi dX4_goOnWord_19 ?_
        refine y_calli E (y_runS E (rest := []) (kX4_isLetter l w E.2.2.1 σ (σ 39 (σ 38 4).toNatClampNeg) _ hv) (y_cwS 1 E.1.2.2.2.2 wm_207 wm_215 wm_157 wm_216 (by decide +kernel) (yRm_le (by decide) (by decide))) rfl rfl (Nat.le_of_ble_eq_true rfl) dX4_goOnWord_20) (fun v2 u3 hk => ?_)
        clear hv
        have hv := hk
        clear hk
        refine y_if_eq (tgt := 39) E dX4_goOnWord_23 (by decide) (fun c4 => ?_) (fun c4 => ?_)
        · replace hv := ite_t hv c4
          exact hb39 u3 hv
        · replace hv := ite_f hv c4
          refine y_aload_n E dX4_goOnWord_26 0 rfl ?_
          refine y_dup E dX4_goOnWord_27 rfl ?_
          refine gf_X4_4 E (by decide) (by decide) wm_151 dX4_goOnWord_28 ?_
          refine y_iconst (v := 1) E dX4_goOnWord_31 (by decide) ?_
          refine y_iadd E dX4_goOnWord_32 ?_
          refine pf_X4_4 E (by decide) (by decide) wm_151 dX4_goOnWord_33 ?_
          refine y_nmH (fun u5 hu5 => ?_)
          replace hv := hv u5 hu5
          refine y_goto (tgt := 0) E dX4_goOnWord_36 (by decide) ?_
          exact ih0 u5 hv
  obtain ⟨n0, hv⟩ := hv
  exact hL0 n0 σ hv
theorem dX4_signOf_0 : decode cX4_signOf 0 = .ok (.iload_n 0, 1) := by decide +kernel
theorem dX4_signOf_1 : decode cX4_signOf 1 = .ok (.tableswitch 127 40 61 #[103, 106, 118, 112, 127, 115, 127, 127, 127, 127, 127, 127, 127, 127, 127, 127, 127, 127, 127, 109, 121, 124], 103) := by decide +kernel
theorem dX4_signOf_104 : decode cX4_signOf 104 = .ok (.bipush (-20), 2) := by decide +kernel
theorem dX4_signOf_106 : decode cX4_signOf 106 = .ok (.ireturn, 1) := by decide +kernel
theorem dX4_signOf_107 : decode cX4_signOf 107 = .ok (.bipush (-21), 2) := by decide +kernel
theorem dX4_signOf_109 : decode cX4_signOf 109 = .ok (.ireturn, 1) := by decide +kernel
theorem dX4_signOf_110 : decode cX4_signOf 110 = .ok (.bipush (-22), 2) := by decide +kernel
theorem dX4_signOf_112 : decode cX4_signOf 112 = .ok (.ireturn, 1) := by decide +kernel
theorem dX4_signOf_113 : decode cX4_signOf 113 = .ok (.bipush (-9), 2) := by decide +kernel
theorem dX4_signOf_115 : decode cX4_signOf 115 = .ok (.ireturn, 1) := by decide +kernel
theorem dX4_signOf_116 : decode cX4_signOf 116 = .ok (.bipush (-10), 2) := by decide +kernel
theorem dX4_signOf_118 : decode cX4_signOf 118 = .ok (.ireturn, 1) := by decide +kernel
theorem dX4_signOf_119 : decode cX4_signOf 119 = .ok (.bipush (-11), 2) := by decide +kernel
theorem dX4_signOf_121 : decode cX4_signOf 121 = .ok (.ireturn, 1) := by decide +kernel
theorem dX4_signOf_122 : decode cX4_signOf 122 = .ok (.bipush (-12), 2) := by decide +kernel
theorem dX4_signOf_124 : decode cX4_signOf 124 = .ok (.ireturn, 1) := by decide +kernel
theorem dX4_signOf_125 : decode cX4_signOf 125 = .ok (.bipush (-13), 2) := by decide +kernel
theorem dX4_signOf_127 : decode cX4_signOf 127 = .ok (.ireturn, 1) := by decide +kernel
theorem dX4_signOf_128 : decode cX4_signOf 128 = .ok (.bipush (-31), 2) := by decide +kernel
theorem dX4_signOf_130 : decode cX4_signOf 130 = .ok (.ireturn, 1) := by decide +kernel
set_option maxRecDepth 100000 in
set_option maxHeartbeats 4000000 in
theorem kX4_signOf (l : Launch) (w : wT) (hw : yOk w 55) (σ : Hp) (a1 : Int32) (K : Int32 → Hp → Prop) (hv : VX4_signOf K σ a1) : yMet l w xcf 55 yX4_signOf cX4_signOf 1 (some .int) 1 [.int a1] σ (yQi w xcf 55 K) := by
  unfold VX4_signOf at hv
  refine y_start (lv0 := [(0, .int a1)]) (by decide +kernel) (own := RX4) rfl hw (Nat.le_of_ble_eq_true rfl) rfl (fun p e s m below meth c A E => ?_)
  refine y_iload_n E dX4_signOf_0 0 rfl ?_
  by_cases c1 : a1 = 40
  · replace hv := ite_t hv c1
    refine y_table1 (tgt := 104) (off := 103) (j := 0) E dX4_signOf_1 (i32_eq (z := 40) (by decide) c1) (by decide) rfl (by decide) ?_
    refine y_bipush (v := (-20)) E dX4_signOf_104 (by decide) ?_
    exact y_iret E dX4_signOf_106 hv
  · replace hv := ite_f hv c1
    by_cases c2 : a1 = 41
    · replace hv := ite_t hv c2
      refine y_table1 (tgt := 107) (off := 106) (j := 1) E dX4_signOf_1 (i32_eq (z := 41) (by decide) c2) (by decide) rfl (by decide) ?_
      refine y_bipush (v := (-21)) E dX4_signOf_107 (by decide) ?_
      exact y_iret E dX4_signOf_109 hv
    · replace hv := ite_f hv c2
      by_cases c3 : a1 = 42
      · replace hv := ite_t hv c3
        refine y_table1 (tgt := 119) (off := 118) (j := 2) E dX4_signOf_1 (i32_eq (z := 42) (by decide) c3) (by decide) rfl (by decide) ?_
        refine y_bipush (v := (-11)) E dX4_signOf_119 (by decide) ?_
        exact y_iret E dX4_signOf_121 hv
      · replace hv := ite_f hv c3
        by_cases c4 : a1 = 43
        · replace hv := ite_t hv c4
          refine y_table1 (tgt := 113) (off := 112) (j := 3) E dX4_signOf_1 (i32_eq (z := 43) (by decide) c4) (by decide) rfl (by decide) ?_
          refine y_bipush (v := (-9)) E dX4_signOf_113 (by decide) ?_
          exact y_iret E dX4_signOf_115 hv
        · replace hv := ite_f hv c4
          by_cases c5 : a1 = 45
          · replace hv := ite_t hv c5
            refine y_table1 (tgt := 116) (off := 115) (j := 5) E dX4_signOf_1 (i32_eq (z := 45) (by decide) c5) (by decide) rfl (by decide) ?_
            refine y_bipush (v := (-10)) E dX4_signOf_116 (by decide) ?_
            exact y_iret E dX4_signOf_118 hv
          · replace hv := ite_f hv c5
            by_cases c6 : a1 = 59
            · replace hv := ite_t hv c6
              refine y_table1 (tgt := 110) (off := 109) (j := 19) E dX4_signOf_1 (i32_eq (z := 59) (by decide) c6) (by decide) rfl (by decide) ?_
              refine y_bipush (v := (-22)) E dX4_signOf_110 (by decide) ?_
              exact y_iret E dX4_signOf_112 hv
            · replace hv := ite_f hv c6
              by_cases c7 : a1 = 60
              · replace hv := ite_t hv c7
                refine y_table1 (tgt := 122) (off := 121) (j := 20) E dX4_signOf_1 (i32_eq (z := 60) (by decide) c7) (by decide) rfl (by decide) ?_
                refine y_bipush (v := (-12)) E dX4_signOf_122 (by decide) ?_
                exact y_iret E dX4_signOf_124 hv
              · replace hv := ite_f hv c7
                by_cases c8 : a1 = 61
                · replace hv := ite_t hv c8
                  refine y_table1 (tgt := 125) (off := 124) (j := 21) E dX4_signOf_1 (i32_eq (z := 61) (by decide) c8) (by decide) rfl (by decide) ?_
                  refine y_bipush (v := (-13)) E dX4_signOf_125 (by decide) ?_
                  exact y_iret E dX4_signOf_127 hv
                · replace hv := ite_f hv c8
                  refine y_table0 (tgt := 128) E dX4_signOf_1 (by decide) (fun j hj => ?_) (by decide) ?_
                  · match j, hj with
                    | 0, _ => exact Or.inr (i32_ne (z := 40 + ((0 : Nat) : Int)) (by decide) c1)
                    | 1, _ => exact Or.inr (i32_ne (z := 40 + ((1 : Nat) : Int)) (by decide) c2)
                    | 2, _ => exact Or.inr (i32_ne (z := 40 + ((2 : Nat) : Int)) (by decide) c3)
                    | 3, _ => exact Or.inr (i32_ne (z := 40 + ((3 : Nat) : Int)) (by decide) c4)
                    | 4, _ => exact Or.inl rfl
                    | 5, _ => exact Or.inr (i32_ne (z := 40 + ((5 : Nat) : Int)) (by decide) c5)
                    | 6, _ => exact Or.inl rfl
                    | 7, _ => exact Or.inl rfl
                    | 8, _ => exact Or.inl rfl
                    | 9, _ => exact Or.inl rfl
                    | 10, _ => exact Or.inl rfl
                    | 11, _ => exact Or.inl rfl
                    | 12, _ => exact Or.inl rfl
                    | 13, _ => exact Or.inl rfl
                    | 14, _ => exact Or.inl rfl
                    | 15, _ => exact Or.inl rfl
                    | 16, _ => exact Or.inl rfl
                    | 17, _ => exact Or.inl rfl
                    | 18, _ => exact Or.inl rfl
                    | 19, _ => exact Or.inr (i32_ne (z := 40 + ((19 : Nat) : Int)) (by decide) c6)
                    | 20, _ => exact Or.inr (i32_ne (z := 40 + ((20 : Nat) : Int)) (by decide) c7)
                    | 21, _ => exact Or.inr (i32_ne (z := 40 + ((21 : Nat) : Int)) (by decide) c8)
                    | j + 22, hj => exact absurd hj (by simp)
                  · refine y_bipush (v := (-31)) E dX4_signOf_128 (by decide) ?_
                    exact y_iret E dX4_signOf_130 hv
theorem dX4_goOn_0 : decode cX4_goOn 0 = .ok (.aload_n 0, 1) := by decide +kernel
theorem dX4_goOn_1 : decode cX4_goOn 1 = .ok (.getfield 28, 3) := by decide +kernel
theorem dX4_goOn_4 : decode cX4_goOn 4 = .ok (.ifCond .lt 4, 3) := by decide +kernel
theorem dX4_goOn_7 : decode cX4_goOn 7 = .ok (.return_, 1) := by decide +kernel
theorem dX4_goOn_8 : decode cX4_goOn 8 = .ok (.aload_n 0, 1) := by decide +kernel
theorem dX4_goOn_9 : decode cX4_goOn 9 = .ok (.aload_n 0, 1) := by decide +kernel
theorem dX4_goOn_10 : decode cX4_goOn 10 = .ok (.getfield 31, 3) := by decide +kernel
theorem dX4_goOn_13 : decode cX4_goOn 13 = .ok (.putfield 74, 3) := by decide +kernel
theorem dX4_goOn_16 : decode cX4_goOn 16 = .ok (.aload_n 0, 1) := by decide +kernel
theorem dX4_goOn_17 : decode cX4_goOn 17 = .ok (.getfield 74, 3) := by decide +kernel
theorem dX4_goOn_20 : decode cX4_goOn 20 = .ok (.aload_n 0, 1) := by decide +kernel
theorem dX4_goOn_21 : decode cX4_goOn 21 = .ok (.getfield 15, 3) := by decide +kernel
theorem dX4_goOn_24 : decode cX4_goOn 24 = .ok (.if_icmp .ge 44, 3) := by decide +kernel
theorem dX4_goOn_27 : decode cX4_goOn 27 = .ok (.aload_n 0, 1) := by decide +kernel
theorem dX4_goOn_28 : decode cX4_goOn 28 = .ok (.getfield 9, 3) := by decide +kernel
theorem dX4_goOn_31 : decode cX4_goOn 31 = .ok (.aload_n 0, 1) := by decide +kernel
theorem dX4_goOn_32 : decode cX4_goOn 32 = .ok (.getfield 74, 3) := by decide +kernel
theorem dX4_goOn_35 : decode cX4_goOn 35 = .ok (.baload, 1) := by decide +kernel
theorem dX4_goOn_36 : decode cX4_goOn 36 = .ok (.bipush 32, 2) := by decide +kernel
theorem dX4_goOn_38 : decode cX4_goOn 38 = .ok (.if_icmp .eq 17, 3) := by decide +kernel
theorem dX4_goOn_41 : decode cX4_goOn 41 = .ok (.aload_n 0, 1) := by decide +kernel
theorem dX4_goOn_42 : decode cX4_goOn 42 = .ok (.getfield 9, 3) := by decide +kernel
theorem dX4_goOn_45 : decode cX4_goOn 45 = .ok (.aload_n 0, 1) := by decide +kernel
theorem dX4_goOn_46 : decode cX4_goOn 46 = .ok (.getfield 74, 3) := by decide +kernel
theorem dX4_goOn_49 : decode cX4_goOn 49 = .ok (.baload, 1) := by decide +kernel
theorem dX4_goOn_50 : decode cX4_goOn 50 = .ok (.bipush 10, 2) := by decide +kernel
theorem dX4_goOn_52 : decode cX4_goOn 52 = .ok (.if_icmp .ne 16, 3) := by decide +kernel
theorem dX4_goOn_55 : decode cX4_goOn 55 = .ok (.aload_n 0, 1) := by decide +kernel
theorem dX4_goOn_56 : decode cX4_goOn 56 = .ok (.dup, 1) := by decide +kernel
theorem dX4_goOn_57 : decode cX4_goOn 57 = .ok (.getfield 74, 3) := by decide +kernel
theorem dX4_goOn_60 : decode cX4_goOn 60 = .ok (.iconst 1, 1) := by decide +kernel
theorem dX4_goOn_61 : decode cX4_goOn 61 = .ok (.iadd, 1) := by decide +kernel
theorem dX4_goOn_62 : decode cX4_goOn 62 = .ok (.putfield 74, 3) := by decide +kernel
theorem dX4_goOn_65 : decode cX4_goOn 65 = .ok (.goto (-49), 3) := by decide +kernel
theorem dX4_goOn_68 : decode cX4_goOn 68 = .ok (.aload_n 0, 1) := by decide +kernel
theorem dX4_goOn_69 : decode cX4_goOn 69 = .ok (.aload_n 0, 1) := by decide +kernel
theorem dX4_goOn_70 : decode cX4_goOn 70 = .ok (.getfield 74, 3) := by decide +kernel
theorem dX4_goOn_73 : decode cX4_goOn 73 = .ok (.putfield 31, 3) := by decide +kernel
theorem dX4_goOn_76 : decode cX4_goOn 76 = .ok (.aload_n 0, 1) := by decide +kernel
theorem dX4_goOn_77 : decode cX4_goOn 77 = .ok (.getfield 74, 3) := by decide +kernel
theorem dX4_goOn_80 : decode cX4_goOn 80 = .ok (.aload_n 0, 1) := by decide +kernel
theorem dX4_goOn_81 : decode cX4_goOn 81 = .ok (.getfield 15, 3) := by decide +kernel
theorem dX4_goOn_84 : decode cX4_goOn 84 = .ok (.if_icmp .lt 12, 3) := by decide +kernel
theorem dX4_goOn_87 : decode cX4_goOn 87 = .ok (.aload_n 0, 1) := by decide +kernel
theorem dX4_goOn_88 : decode cX4_goOn 88 = .ok (.bipush (-30), 2) := by decide +kernel
theorem dX4_goOn_90 : decode cX4_goOn 90 = .ok (.putfield 53, 3) := by decide +kernel
theorem dX4_goOn_93 : decode cX4_goOn 93 = .ok (.goto 73, 3) := by decide +kernel
theorem dX4_goOn_96 : decode cX4_goOn 96 = .ok (.aload_n 0, 1) := by decide +kernel
theorem dX4_goOn_97 : decode cX4_goOn 97 = .ok (.getfield 9, 3) := by decide +kernel
theorem dX4_goOn_100 : decode cX4_goOn 100 = .ok (.aload_n 0, 1) := by decide +kernel
theorem dX4_goOn_101 : decode cX4_goOn 101 = .ok (.getfield 74, 3) := by decide +kernel
theorem dX4_goOn_104 : decode cX4_goOn 104 = .ok (.baload, 1) := by decide +kernel
theorem dX4_goOn_105 : decode cX4_goOn 105 = .ok (.invokestatic 77, 3) := by decide +kernel
theorem dX4_goOn_108 : decode cX4_goOn 108 = .ok (.ifCond .eq 10, 3) := by decide +kernel
theorem dX4_goOn_111 : decode cX4_goOn 111 = .ok (.aload_n 0, 1) := by decide +kernel
theorem dX4_goOn_112 : decode cX4_goOn 112 = .ok (.invokevirtual 81, 3) := by decide +kernel
theorem dX4_goOn_115 : decode cX4_goOn 115 = .ok (.goto 51, 3) := by decide +kernel
theorem dX4_goOn_118 : decode cX4_goOn 118 = .ok (.aload_n 0, 1) := by decide +kernel
theorem dX4_goOn_119 : decode cX4_goOn 119 = .ok (.getfield 9, 3) := by decide +kernel
theorem dX4_goOn_122 : decode cX4_goOn 122 = .ok (.aload_n 0, 1) := by decide +kernel
theorem dX4_goOn_123 : decode cX4_goOn 123 = .ok (.getfield 74, 3) := by decide +kernel
theorem dX4_goOn_126 : decode cX4_goOn 126 = .ok (.baload, 1) := by decide +kernel
theorem dX4_goOn_127 : decode cX4_goOn 127 = .ok (.invokestatic 84, 3) := by decide +kernel
theorem dX4_goOn_130 : decode cX4_goOn 130 = .ok (.ifCond .eq 10, 3) := by decide +kernel
theorem dX4_goOn_133 : decode cX4_goOn 133 = .ok (.aload_n 0, 1) := by decide +kernel
theorem dX4_goOn_134 : decode cX4_goOn 134 = .ok (.invokevirtual 87, 3) := by decide +kernel
theorem dX4_goOn_137 : decode cX4_goOn 137 = .ok (.goto 29, 3) := by decide +kernel
theorem dX4_goOn_140 : decode cX4_goOn 140 = .ok (.aload_n 0, 1) := by decide +kernel
theorem dX4_goOn_141 : decode cX4_goOn 141 = .ok (.aload_n 0, 1) := by decide +kernel
theorem dX4_goOn_142 : decode cX4_goOn 142 = .ok (.getfield 74, 3) := by decide +kernel
theorem dX4_goOn_145 : decode cX4_goOn 145 = .ok (.iconst 1, 1) := by decide +kernel
theorem dX4_goOn_146 : decode cX4_goOn 146 = .ok (.iadd, 1) := by decide +kernel
theorem dX4_goOn_147 : decode cX4_goOn 147 = .ok (.putfield 31, 3) := by decide +kernel
theorem dX4_goOn_150 : decode cX4_goOn 150 = .ok (.aload_n 0, 1) := by decide +kernel
theorem dX4_goOn_151 : decode cX4_goOn 151 = .ok (.aload_n 0, 1) := by decide +kernel
theorem dX4_goOn_152 : decode cX4_goOn 152 = .ok (.getfield 9, 3) := by decide +kernel
theorem dX4_goOn_155 : decode cX4_goOn 155 = .ok (.aload_n 0, 1) := by decide +kernel
theorem dX4_goOn_156 : decode cX4_goOn 156 = .ok (.getfield 74, 3) := by decide +kernel
theorem dX4_goOn_159 : decode cX4_goOn 159 = .ok (.baload, 1) := by decide +kernel
theorem dX4_goOn_160 : decode cX4_goOn 160 = .ok (.invokestatic 90, 3) := by decide +kernel
theorem dX4_goOn_163 : decode cX4_goOn 163 = .ok (.putfield 53, 3) := by decide +kernel
theorem dX4_goOn_166 : decode cX4_goOn 166 = .ok (.return_, 1) := by decide +kernel
set_option maxRecDepth 100000 in
set_option maxHeartbeats 4000000 in
theorem kX4_goOn (l : Launch) (w : wT) (hw : yOk w 55) (σ : Hp)  (K : Hp → Prop) (hv : VX4_goOn K σ ) : yMet l w xcf 55 yX4_goOn cX4_goOn 1 none 8 [.ref (w.1 38)] σ (yQv w xcf 55 K) := by
  unfold VX4_goOn at hv
  refine y_start (lv0 := [(0, .ref (w.1 38))]) (by decide +kernel) (own := RX4) rfl hw (Nat.le_of_ble_eq_true rfl) rfl (fun p e s m below meth c A E => ?_)
  have hb68 : ∀ (σ : Hp), VX4_goOn_b68 K σ → YY p l e (yRm 8) s m [.ref (w.1 38)].toArray below meth c w xcf 55 A (MQ below (yQv w xcf 55 K A) [.ref (w.1 38)].toArray s 0 0 A) 1 σ 68 [(0, .ref (w.1 38))] [] := by
    intro σ hv
    unfold VX4_goOn_b68 at hv
    refine y_aload_n E dX4_goOn_68 0 rfl ?_
    refine y_aload_n E dX4_goOn_69 0 rfl ?_
    refine gf_X4_3 E (by decide) (by decide) wm_205 dX4_goOn_70 ?_
    refine pf_X4_4 E (by decide) (by decide) wm_151 dX4_goOn_73 ?_
    refine y_nmH (fun u6 hu6 => ?_)
    replace hv := hv u6 hu6
    refine y_aload_n E dX4_goOn_76 0 rfl ?_
    refine gf_X4_3 E (by decide) (by decide) wm_205 dX4_goOn_77 ?_
    refine y_aload_n E dX4_goOn_80 0 rfl ?_
    refine gf_X4_1 E (by decide) (by decide) wm_146 dX4_goOn_81 ?_
    refine y_icmp_lt (tgt := 96) E dX4_goOn_84 (by decide) (fun c7 => ?_) (fun c7 => ?_)
    · replace hv := ite_t hv c7
      refine y_aload_n E dX4_goOn_96 0 rfl ?_
      refine gf_X4_0 E (by decide) (by decide) wm_147 dX4_goOn_97 ?_
      refine y_aload_n E dX4_goOn_100 0 rfl ?_
      refine gf_X4_3 E (by decide) (by decide) wm_205 dX4_goOn_101 ?_
      obtain ⟨hi, hv⟩ := hv
      refine y_bald E (Nat.lt_of_lt_of_le (show 39 < 40 by decide) (by decide)) (xc_bytes (by decide) (by decide)) hi dX4_goOn_104 ?_
      refine y_calli E (y_runS E (rest := []) (kX4_isDigit l w E.2.2.1 u6 (u6 39 (u6 38 3).toNatClampNeg) _ hv) (y_cwS 1 E.1.2.2.2.2 wm_206 wm_221 wm_157 wm_222 (by decide +kernel) (yRm_le (by decide) (by decide))) rfl rfl (Nat.le_of_ble_eq_true rfl) dX4_goOn_105) (fun v8 u9 hk => ?_)
      clear hv
      have hv := hk
      clear hk
      refine y_if_eq (tgt := 118) E dX4_goOn_108 (by decide) (fun c10 => ?_) (fun c10 => ?_)
      · replace hv := ite_t hv c10
        refine y_aload_n E dX4_goOn_118 0 rfl ?_
        refine gf_X4_0 E (by decide) (by decide) wm_147 dX4_goOn_119 ?_
        refine y_aload_n E dX4_goOn_122 0 rfl ?_
        refine gf_X4_3 E (by decide) (by decide) wm_205 dX4_goOn_123 ?_
        obtain ⟨hi, hv⟩ := hv
        refine y_bald E (Nat.lt_of_lt_of_le (show 39 < 40 by decide) (by decide)) (xc_bytes (by decide) (by decide)) hi dX4_goOn_126 ?_
        refine y_calli E (y_runS E (rest := []) (kX4_isLetter l w E.2.2.1 u9 (u9 39 (u9 38 3).toNatClampNeg) _ hv) (y_cwS 1 E.1.2.2.2.2 wm_207 wm_215 wm_157 wm_216 (by decide +kernel) (yRm_le (by decide) (by decide))) rfl rfl (Nat.le_of_ble_eq_true rfl) dX4_goOn_127) (fun v11 u12 hk => ?_)
        clear hv
        have hv := hk
        clear hk
        refine y_if_eq (tgt := 140) E dX4_goOn_130 (by decide) (fun c13 => ?_) (fun c13 => ?_)
        · replace hv := ite_t hv c13
          refine y_aload_n E dX4_goOn_140 0 rfl ?_
          refine y_aload_n E dX4_goOn_141 0 rfl ?_
          refine gf_X4_3 E (by decide) (by decide) wm_205 dX4_goOn_142 ?_
          refine y_iconst (v := 1) E dX4_goOn_145 (by decide) ?_
          refine y_iadd E dX4_goOn_146 ?_
          refine pf_X4_4 E (by decide) (by decide) wm_151 dX4_goOn_147 ?_
          refine y_nmH (fun u14 hu14 => ?_)
          replace hv := hv u14 hu14
          refine y_aload_n E dX4_goOn_150 0 rfl ?_
          refine y_aload_n E dX4_goOn_151 0 rfl ?_
          refine gf_X4_0 E (by decide) (by decide) wm_147 dX4_goOn_152 ?_
          refine y_aload_n E dX4_goOn_155 0 rfl ?_
          refine gf_X4_3 E (by decide) (by decide) wm_205 dX4_goOn_156 ?_
          obtain ⟨hi, hv⟩ := hv
          refine y_bald E (Nat.lt_of_lt_of_le (show 39 < 40 by decide) (by decide)) (xc_bytes (by decide) (by decide)) hi dX4_goOn_159 ?_
          refine y_calli E (y_runS E (rest := [.ref (w.1 38)]) (kX4_signOf l w E.2.2.1 u14 (u14 39 (u14 38 3).toNatClampNeg) _ hv) (y_cwS 1 E.1.2.2.2.2 wm_208 wm_209 wm_157 wm_210 (by decide +kernel) (yRm_le (by decide) (by decide))) rfl rfl (Nat.le_of_ble_eq_true rfl) dX4_goOn_160) (fun v15 u16 hk => ?_)
          clear hv
          have hv := hk
          clear hk
          refine pf_X4_2 E (by decide) (by decide) wm_180 dX4_goOn_163 ?_
          refine y_nmH (fun u17 hu17 => ?_)
          replace hv := hv u17 hu17
          exact y_vret E dX4_goOn_166 hv
        · replace hv := ite_f hv c13
          refine y_aload_n E dX4_goOn_133 0 rfl ?_
          refine y_callv E (y_runV E (rest := []) (kX4_goOnWord l w E.2.2.1 u12 _ hv) (y_cwV 0 E.1.2.2.2.2 wm_211 wm_212 wm_213 wm_157 wm_214 (by decide +kernel) (yRm_le (by decide) (by decide))) (Nat.lt_of_lt_of_le (show 38 < 39 by decide) (by decide)) (xc_X4 (by decide) (by decide)) rfl rfl rfl (Nat.le_of_ble_eq_true rfl) dX4_goOn_134) (fun u19 hk => ?_)
          clear hv
          have hv := hk
          clear hk
          refine y_goto (tgt := 166) E dX4_goOn_137 (by decide) ?_
          exact y_vret E dX4_goOn_166 hv
      · replace hv := ite_f hv c10
        refine y_aload_n E dX4_goOn_111 0 rfl ?_
        refine y_callv E (y_runV E (rest := []) (kX4_goOnNumber l w E.2.2.1 u9 _ hv) (y_cwV 0 E.1.2.2.2.2 wm_217 wm_218 wm_219 wm_157 wm_220 (by decide +kernel) (yRm_le (by decide) (by decide))) (Nat.lt_of_lt_of_le (show 38 < 39 by decide) (by decide)) (xc_X4 (by decide) (by decide)) rfl rfl rfl (Nat.le_of_ble_eq_true rfl) dX4_goOn_112) (fun u21 hk => ?_)
        clear hv
        have hv := hk
        clear hk
        refine y_goto (tgt := 166) E dX4_goOn_115 (by decide) ?_
        exact y_vret E dX4_goOn_166 hv
    · replace hv := ite_f hv c7
      refine y_aload_n E dX4_goOn_87 0 rfl ?_
      refine y_bipush (v := (-30)) E dX4_goOn_88 (by decide) ?_
      refine pf_X4_2 E (by decide) (by decide) wm_180 dX4_goOn_90 ?_
      refine y_nmH (fun u22 hu22 => ?_)
      replace hv := hv u22 hu22
      refine y_goto (tgt := 166) E dX4_goOn_93 (by decide) ?_
      exact y_vret E dX4_goOn_166 hv
  have hL16 : ∀ (n16 : Nat) (σ : Hp), VX4_goOn_L16 K n16 σ → YY p l e (yRm 8) s m [.ref (w.1 38)].toArray below meth c w xcf 55 A (MQ below (yQv w xcf 55 K A) [.ref (w.1 38)].toArray s 0 0 A) 1 σ 16 [(0, .ref (w.1 38))] [] := by
    intro n16
    induction n16 with
    | zero => exact fun _ hv => (by unfold VX4_goOn_L16 at hv; exact hv.elim)
    | succ n16 ih16 =>
      have hb55 : ∀ (σ : Hp), VX4_goOn_b55 K (VX4_goOn_L16 K n16) σ → YY p l e (yRm 8) s m [.ref (w.1 38)].toArray below meth c w xcf 55 A (MQ below (yQv w xcf 55 K A) [.ref (w.1 38)].toArray s 0 0 A) 1 σ 55 [(0, .ref (w.1 38))] [] := by
        intro σ hv
        unfold VX4_goOn_b55 at hv
        refine y_aload_n E dX4_goOn_55 0 rfl ?_
        refine y_dup E dX4_goOn_56 rfl ?_
        refine gf_X4_3 E (by decide) (by decide) wm_205 dX4_goOn_57 ?_
        refine y_iconst (v := 1) E dX4_goOn_60 (by decide) ?_
        refine y_iadd E dX4_goOn_61 ?_
        refine pf_X4_3 E (by decide) (by decide) wm_205 dX4_goOn_62 ?_
        refine y_nmH (fun u23 hu23 => ?_)
        replace hv := hv u23 hu23
        refine y_goto (tgt := 16) E dX4_goOn_65 (by decide) ?_
        exact ih16 u23 hv
      intro σ hv
      unfold VX4_goOn_L16 at hv
      refine y_aload_n E dX4_goOn_16 0 rfl ?_
      refine gf_X4_3 E (by decide) (by decide) wm_205 dX4_goOn_17 ?_
      refine y_aload_n E dX4_goOn_20 0 rfl ?_
      refine gf_X4_1 E (by decide) (by decide) wm_146 dX4_goOn_21 ?_
      refine y_icmp_ge (tgt := 68) E dX4_goOn_24 (by decide) (fun c3 => ?_) (fun c3 => ?_)
      · replace hv := ite_t hv c3
        exact hb68 σ hv
      · replace hv := ite_f hv c3
        refine y_aload_n E dX4_goOn_27 0 rfl ?_
        refine gf_X4_0 E (by decide) (by decide) wm_147 dX4_goOn_28 ?_
        refine y_aload_n E dX4_goOn_31 0 rfl ?_
        refine gf_X4_3 E (by decide) (by decide) wm_205 dX4_goOn_32 ?_
        obtain ⟨hi, hv⟩ := hv
        refine y_bald E (Nat.lt_of_lt_of_le (show 39 < 40 by decide) (by decide)) (xc_bytes (by decide) (by decide)) hi dX4_goOn_35 ?_
        refine y_bipush (v := 32) E dX4_goOn_36 (by decide) ?_
        refine y_icmp_eq (tgt := 55) E dX4_goOn_38 (by decide) (fun c4 => ?_) (fun c4 => ?_)
        · replace hv := ite_t hv c4
          exact hb55 σ hv
        · replace hv := ite_f hv c4
          refine y_aload_n E dX4_goOn_41 0 rfl ?_
          refine gf_X4_0 E (by decide) (by decide) wm_147 dX4_goOn_42 ?_
          refine y_aload_n E dX4_goOn_45 0 rfl ?_
          refine gf_X4_3 E (by decide) (by decide) wm_205 dX4_goOn_46 ?_
          obtain ⟨hi, hv⟩ := hv
          refine y_bald E (Nat.lt_of_lt_of_le (show 39 < 40 by decide) (by decide)) (xc_bytes (by decide) (by decide)) hi dX4_goOn_49 ?_
          refine y_bipush (v := 10) E dX4_goOn_50 (by decide) ?_
          refine y_icmp_ne (tgt := 68) E dX4_goOn_52 (by decide) (fun c5 => ?_) (fun c5 => ?_)
          · replace hv := ite_f hv c5
            exact hb68 σ hv
          · replace hv := ite_t hv c5
            exact hb55 σ hv
  refine y_aload_n E dX4_goOn_0 0 rfl ?_
  refine gf_X4_5 E (by decide) (by decide) wm_150 dX4_goOn_1 ?_
  refine y_if_lt (tgt := 8) E dX4_goOn_4 (by decide) (fun c1 => ?_) (fun c1 => ?_)
  · replace hv := ite_t hv c1
    refine y_aload_n E dX4_goOn_8 0 rfl ?_
    refine y_aload_n E dX4_goOn_9 0 rfl ?_
    refine gf_X4_4 E (by decide) (by decide) wm_151 dX4_goOn_10 ?_
    refine pf_X4_3 E (by decide) (by decide) wm_205 dX4_goOn_13 ?_
    refine y_nmH (fun u2 hu2 => ?_)
    replace hv := hv u2 hu2
    obtain ⟨n0, hv⟩ := hv
    exact hL16 n0 u2 hv
  · replace hv := ite_f hv c1
    exact y_vret E dX4_goOn_7 hv
theorem dX4_fail_0 : decode cX4_fail 0 = .ok (.aload_n 0, 1) := by decide +kernel
theorem dX4_fail_1 : decode cX4_fail 1 = .ok (.getfield 28, 3) := by decide +kernel
theorem dX4_fail_4 : decode cX4_fail 4 = .ok (.ifCond .ge 11, 3) := by decide +kernel
theorem dX4_fail_7 : decode cX4_fail 7 = .ok (.aload_n 0, 1) := by decide +kernel
theorem dX4_fail_8 : decode cX4_fail 8 = .ok (.aload_n 0, 1) := by decide +kernel
theorem dX4_fail_9 : decode cX4_fail 9 = .ok (.getfield 74, 3) := by decide +kernel
theorem dX4_fail_12 : decode cX4_fail 12 = .ok (.putfield 28, 3) := by decide +kernel
theorem dX4_fail_15 : decode cX4_fail 15 = .ok (.aload_n 0, 1) := by decide +kernel
theorem dX4_fail_16 : decode cX4_fail 16 = .ok (.bipush (-31), 2) := by decide +kernel
theorem dX4_fail_18 : decode cX4_fail 18 = .ok (.putfield 53, 3) := by decide +kernel
theorem dX4_fail_21 : decode cX4_fail 21 = .ok (.return_, 1) := by decide +kernel
set_option maxRecDepth 100000 in
set_option maxHeartbeats 4000000 in
theorem kX4_fail (l : Launch) (w : wT) (hw : yOk w 55) (σ : Hp)  (K : Hp → Prop) (hv : VX4_fail K σ ) : yMet l w xcf 55 yX4_fail cX4_fail 1 none 1 [.ref (w.1 38)] σ (yQv w xcf 55 K) := by
  unfold VX4_fail at hv
  refine y_start (lv0 := [(0, .ref (w.1 38))]) (by decide +kernel) (own := RX4) rfl hw (Nat.le_of_ble_eq_true rfl) rfl (fun p e s m below meth c A E => ?_)
  refine y_aload_n E dX4_fail_0 0 rfl ?_
  refine gf_X4_5 E (by decide) (by decide) wm_150 dX4_fail_1 ?_
  refine y_if_ge (tgt := 15) E dX4_fail_4 (by decide) (fun c1 => ?_) (fun c1 => ?_)
  · replace hv := ite_t hv c1
    refine y_aload_n E dX4_fail_15 0 rfl ?_
    refine y_bipush (v := (-31)) E dX4_fail_16 (by decide) ?_
    refine pf_X4_2 E (by decide) (by decide) wm_180 dX4_fail_18 ?_
    refine y_nmH (fun u2 hu2 => ?_)
    replace hv := hv u2 hu2
    exact y_vret E dX4_fail_21 hv
  · replace hv := ite_f hv c1
    refine y_aload_n E dX4_fail_7 0 rfl ?_
    refine y_aload_n E dX4_fail_8 0 rfl ?_
    refine gf_X4_3 E (by decide) (by decide) wm_205 dX4_fail_9 ?_
    refine pf_X4_5 E (by decide) (by decide) wm_150 dX4_fail_12 ?_
    refine y_nmH (fun u3 hu3 => ?_)
    replace hv := hv u3 hu3
    refine y_aload_n E dX4_fail_15 0 rfl ?_
    refine y_bipush (v := (-31)) E dX4_fail_16 (by decide) ?_
    refine pf_X4_2 E (by decide) (by decide) wm_180 dX4_fail_18 ?_
    refine y_nmH (fun u4 hu4 => ?_)
    replace hv := hv u4 hu4
    exact y_vret E dX4_fail_21 hv
theorem dX4_take_0 : decode cX4_take 0 = .ok (.aload_n 0, 1) := by decide +kernel
theorem dX4_take_1 : decode cX4_take 1 = .ok (.getfield 53, 3) := by decide +kernel
theorem dX4_take_4 : decode cX4_take 4 = .ok (.iload_n 1, 1) := by decide +kernel
theorem dX4_take_5 : decode cX4_take 5 = .ok (.if_icmp .eq 10, 3) := by decide +kernel
theorem dX4_take_8 : decode cX4_take 8 = .ok (.aload_n 0, 1) := by decide +kernel
theorem dX4_take_9 : decode cX4_take 9 = .ok (.invokevirtual 71, 3) := by decide +kernel
theorem dX4_take_12 : decode cX4_take 12 = .ok (.goto 16, 3) := by decide +kernel
theorem dX4_take_15 : decode cX4_take 15 = .ok (.aload_n 0, 1) := by decide +kernel
theorem dX4_take_16 : decode cX4_take 16 = .ok (.getfield 53, 3) := by decide +kernel
theorem dX4_take_19 : decode cX4_take 19 = .ok (.bipush (-30), 2) := by decide +kernel
theorem dX4_take_21 : decode cX4_take 21 = .ok (.if_icmp .eq 7, 3) := by decide +kernel
theorem dX4_take_24 : decode cX4_take 24 = .ok (.aload_n 0, 1) := by decide +kernel
theorem dX4_take_25 : decode cX4_take 25 = .ok (.invokevirtual 34, 3) := by decide +kernel
theorem dX4_take_28 : decode cX4_take 28 = .ok (.return_, 1) := by decide +kernel
set_option maxRecDepth 100000 in
set_option maxHeartbeats 4000000 in
theorem kX4_take (l : Launch) (w : wT) (hw : yOk w 55) (σ : Hp) (a1 : Int32) (K : Hp → Prop) (hv : VX4_take K σ a1) : yMet l w xcf 55 yX4_take cX4_take 2 none 9 [.ref (w.1 38), .int a1] σ (yQv w xcf 55 K) := by
  unfold VX4_take at hv
  refine y_start (lv0 := [(0, .ref (w.1 38)), (1, .int a1)]) (by decide +kernel) (own := RX4) rfl hw (Nat.le_of_ble_eq_true rfl) rfl (fun p e s m below meth c A E => ?_)
  refine y_aload_n E dX4_take_0 0 rfl ?_
  refine gf_X4_2 E (by decide) (by decide) wm_180 dX4_take_1 ?_
  refine y_iload_n E dX4_take_4 1 rfl ?_
  refine y_icmp_eq (tgt := 15) E dX4_take_5 (by decide) (fun c1 => ?_) (fun c1 => ?_)
  · replace hv := ite_t hv c1
    refine y_aload_n E dX4_take_15 0 rfl ?_
    refine gf_X4_2 E (by decide) (by decide) wm_180 dX4_take_16 ?_
    refine y_bipush (v := (-30)) E dX4_take_19 (by decide) ?_
    refine y_icmp_eq (tgt := 28) E dX4_take_21 (by decide) (fun c2 => ?_) (fun c2 => ?_)
    · replace hv := ite_t hv c2
      exact y_vret E dX4_take_28 hv
    · replace hv := ite_f hv c2
      refine y_aload_n E dX4_take_24 0 rfl ?_
      refine y_callv E (y_runV E (rest := []) (kX4_goOn l w E.2.2.1 σ _ hv) (y_cwV 0 E.1.2.2.2.2 wm_152 wm_162 wm_163 wm_157 wm_164 (by decide +kernel) (yRm_le (by decide) (by decide))) (Nat.lt_of_lt_of_le (show 38 < 39 by decide) (by decide)) (xc_X4 (by decide) (by decide)) rfl rfl rfl (Nat.le_of_ble_eq_true rfl) dX4_take_25) (fun u4 hk => ?_)
      clear hv
      have hv := hk
      clear hk
      exact y_vret E dX4_take_28 hv
  · replace hv := ite_f hv c1
    refine y_aload_n E dX4_take_8 0 rfl ?_
    refine y_callv E (y_runV E (rest := []) (kX4_fail l w E.2.2.1 σ _ hv) (y_cwV 0 E.1.2.2.2.2 wm_201 wm_202 wm_203 wm_157 wm_204 (by decide +kernel) (yRm_le (by decide) (by decide))) (Nat.lt_of_lt_of_le (show 38 < 39 by decide) (by decide)) (xc_X4 (by decide) (by decide)) rfl rfl rfl (Nat.le_of_ble_eq_true rfl) dX4_take_9) (fun u6 hk => ?_)
    clear hv
    have hv := hk
    clear hk
    refine y_goto (tgt := 28) E dX4_take_12 (by decide) ?_
    exact y_vret E dX4_take_28 hv
theorem dX9_add_0 : decode cX9_add 0 = .ok (.aload_n 0, 1) := by decide +kernel
theorem dX9_add_1 : decode cX9_add 1 = .ok (.getfield 21, 3) := by decide +kernel
theorem dX9_add_4 : decode cX9_add 4 = .ok (.sipush 160, 3) := by decide +kernel
theorem dX9_add_7 : decode cX9_add 7 = .ok (.if_icmp .ge 23, 3) := by decide +kernel
theorem dX9_add_10 : decode cX9_add 10 = .ok (.aload_n 0, 1) := by decide +kernel
theorem dX9_add_11 : decode cX9_add 11 = .ok (.getfield 9, 3) := by decide +kernel
theorem dX9_add_14 : decode cX9_add 14 = .ok (.aload_n 0, 1) := by decide +kernel
theorem dX9_add_15 : decode cX9_add 15 = .ok (.getfield 21, 3) := by decide +kernel
theorem dX9_add_18 : decode cX9_add 18 = .ok (.iload_n 1, 1) := by decide +kernel
theorem dX9_add_19 : decode cX9_add 19 = .ok (.iastore, 1) := by decide +kernel
theorem dX9_add_20 : decode cX9_add 20 = .ok (.aload_n 0, 1) := by decide +kernel
theorem dX9_add_21 : decode cX9_add 21 = .ok (.dup, 1) := by decide +kernel
theorem dX9_add_22 : decode cX9_add 22 = .ok (.getfield 21, 3) := by decide +kernel
theorem dX9_add_25 : decode cX9_add 25 = .ok (.iconst 1, 1) := by decide +kernel
theorem dX9_add_26 : decode cX9_add 26 = .ok (.iadd, 1) := by decide +kernel
theorem dX9_add_27 : decode cX9_add 27 = .ok (.putfield 21, 3) := by decide +kernel
theorem dX9_add_30 : decode cX9_add 30 = .ok (.return_, 1) := by decide +kernel
set_option maxRecDepth 100000 in
set_option maxHeartbeats 4000000 in
theorem kX9_add (l : Launch) (w : wT) (hw : yOk w 55) (σ : Hp) (o : Nat) (a1 : Int32) (K : Hp → Prop) (hv : VX9_add K σ o a1) : yMet l w xcf 55 yX9_add cX9_add 2 none 1 [.ref (w.1 o), .int a1] σ (yQv w xcf 55 K) := by
  unfold VX9_add at hv
  refine y_start (lv0 := [(0, .ref (w.1 o)), (1, .int a1)]) (by decide +kernel) (own := RX9) rfl hw (Nat.le_of_ble_eq_true rfl) rfl (fun p e s m below meth c A E => ?_)
  obtain ⟨hgo, hv⟩ := hv
  refine y_aload_n E dX9_add_0 0 rfl ?_
  refine gf_X9_3 E hgo.1 hgo.2 wm_245 dX9_add_1 ?_
  refine y_sipush (v := 160) E dX9_add_4 (by decide) ?_
  refine y_icmp_ge (tgt := 30) E dX9_add_7 (by decide) (fun c1 => ?_) (fun c1 => ?_)
  · replace hv := ite_t hv c1
    exact y_vret E dX9_add_30 hv
  · replace hv := ite_f hv c1
    refine y_aload_n E dX9_add_10 0 rfl ?_
    obtain ⟨x2, hx2⟩ : ∃ z : Nat, z = 25 + 1 * (o - 19) := ⟨_, rfl⟩
    replace hv := hv x2 hx2
    have hgx2 : 25 ≤ x2 ∧ x2 < 31 := by omega
    refine gf_X9_0 (q := x2) E hgo.1 hgo.2 hx2.symm wm_247 dX9_add_11 ?_
    refine y_aload_n E dX9_add_14 0 rfl ?_
    refine gf_X9_3 E hgo.1 hgo.2 wm_245 dX9_add_15 ?_
    refine y_iload_n E dX9_add_18 1 rfl ?_
    obtain ⟨hi, hv⟩ := hv
    refine y_iast E (Nat.lt_of_lt_of_le hgx2.2 (by decide)) (fun _ => xc_codes hgx2.1 hgx2.2) hi dX9_add_19 ?_
    refine y_nmH (fun u3 hu3 => ?_)
    replace hv := hv u3 hu3
    refine y_aload_n E dX9_add_20 0 rfl ?_
    refine y_dup E dX9_add_21 rfl ?_
    refine gf_X9_3 E hgo.1 hgo.2 wm_245 dX9_add_22 ?_
    refine y_iconst (v := 1) E dX9_add_25 (by decide) ?_
    refine y_iadd E dX9_add_26 ?_
    refine pf_X9_3 E hgo.1 hgo.2 wm_245 dX9_add_27 ?_
    refine y_nmH (fun u4 hu4 => ?_)
    replace hv := hv u4 hu4
    exact y_vret E dX9_add_30 hv
theorem dX9_endPart_0 : decode cX9_endPart 0 = .ok (.aload_n 0, 1) := by decide +kernel
theorem dX9_endPart_1 : decode cX9_endPart 1 = .ok (.getfield 25, 3) := by decide +kernel
theorem dX9_endPart_4 : decode cX9_endPart 4 = .ok (.iconst 3, 1) := by decide +kernel
theorem dX9_endPart_5 : decode cX9_endPart 5 = .ok (.if_icmp .ge 26, 3) := by decide +kernel
theorem dX9_endPart_8 : decode cX9_endPart 8 = .ok (.aload_n 0, 1) := by decide +kernel
theorem dX9_endPart_9 : decode cX9_endPart 9 = .ok (.dup, 1) := by decide +kernel
theorem dX9_endPart_10 : decode cX9_endPart 10 = .ok (.getfield 25, 3) := by decide +kernel
theorem dX9_endPart_13 : decode cX9_endPart 13 = .ok (.iconst 1, 1) := by decide +kernel
theorem dX9_endPart_14 : decode cX9_endPart 14 = .ok (.iadd, 1) := by decide +kernel
theorem dX9_endPart_15 : decode cX9_endPart 15 = .ok (.putfield 25, 3) := by decide +kernel
theorem dX9_endPart_18 : decode cX9_endPart 18 = .ok (.aload_n 0, 1) := by decide +kernel
theorem dX9_endPart_19 : decode cX9_endPart 19 = .ok (.getfield 15, 3) := by decide +kernel
theorem dX9_endPart_22 : decode cX9_endPart 22 = .ok (.aload_n 0, 1) := by decide +kernel
theorem dX9_endPart_23 : decode cX9_endPart 23 = .ok (.getfield 25, 3) := by decide +kernel
theorem dX9_endPart_26 : decode cX9_endPart 26 = .ok (.aload_n 0, 1) := by decide +kernel
theorem dX9_endPart_27 : decode cX9_endPart 27 = .ok (.getfield 21, 3) := by decide +kernel
theorem dX9_endPart_30 : decode cX9_endPart 30 = .ok (.iastore, 1) := by decide +kernel
theorem dX9_endPart_31 : decode cX9_endPart 31 = .ok (.return_, 1) := by decide +kernel
set_option maxRecDepth 100000 in
set_option maxHeartbeats 4000000 in
theorem kX9_endPart (l : Launch) (w : wT) (hw : yOk w 55) (σ : Hp) (o : Nat) (K : Hp → Prop) (hv : VX9_endPart K σ o) : yMet l w xcf 55 yX9_endPart cX9_endPart 1 none 1 [.ref (w.1 o)] σ (yQv w xcf 55 K) := by
  unfold VX9_endPart at hv
  refine y_start (lv0 := [(0, .ref (w.1 o))]) (by decide +kernel) (own := RX9) rfl hw (Nat.le_of_ble_eq_true rfl) rfl (fun p e s m below meth c A E => ?_)
  obtain ⟨hgo, hv⟩ := hv
  refine y_aload_n E dX9_endPart_0 0 rfl ?_
  refine gf_X9_4 E hgo.1 hgo.2 wm_246 dX9_endPart_1 ?_
  refine y_iconst (v := 3) E dX9_endPart_4 (by decide) ?_
  refine y_icmp_ge (tgt := 31) E dX9_endPart_5 (by decide) (fun c1 => ?_) (fun c1 => ?_)
  · replace hv := ite_t hv c1
    exact y_vret E dX9_endPart_31 hv
  · replace hv := ite_f hv c1
    refine y_aload_n E dX9_endPart_8 0 rfl ?_
    refine y_dup E dX9_endPart_9 rfl ?_
    refine gf_X9_4 E hgo.1 hgo.2 wm_246 dX9_endPart_10 ?_
    refine y_iconst (v := 1) E dX9_endPart_13 (by decide) ?_
    refine y_iadd E dX9_endPart_14 ?_
    refine pf_X9_4 E hgo.1 hgo.2 wm_246 dX9_endPart_15 ?_
    refine y_nmH (fun u2 hu2 => ?_)
    replace hv := hv u2 hu2
    refine y_aload_n E dX9_endPart_18 0 rfl ?_
    obtain ⟨x3, hx3⟩ : ∃ z : Nat, z = 31 + 1 * (o - 19) := ⟨_, rfl⟩
    replace hv := hv x3 hx3
    have hgx3 : 31 ≤ x3 ∧ x3 < 37 := by omega
    refine gf_X9_1 (q := x3) E hgo.1 hgo.2 hx3.symm wm_248 dX9_endPart_19 ?_
    refine y_aload_n E dX9_endPart_22 0 rfl ?_
    refine gf_X9_4 E hgo.1 hgo.2 wm_246 dX9_endPart_23 ?_
    refine y_aload_n E dX9_endPart_26 0 rfl ?_
    refine gf_X9_3 E hgo.1 hgo.2 wm_245 dX9_endPart_27 ?_
    obtain ⟨hi, hv⟩ := hv
    refine y_iast E (Nat.lt_of_lt_of_le hgx3.2 (by decide)) (fun _ => xc_starts hgx3.1 hgx3.2) hi dX9_endPart_30 ?_
    refine y_nmH (fun u4 hu4 => ?_)
    replace hv := hv u4 hu4
    exact y_vret E dX9_endPart_31 hv
