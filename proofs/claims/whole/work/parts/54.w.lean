theorem dX11_measure_0 : decode cX11_measure 0 = .ok (.iconst 0, 1) := by decide +kernel
theorem dX11_measure_1 : decode cX11_measure 1 = .ok (.istore_n 2, 1) := by decide +kernel
theorem dX11_measure_2 : decode cX11_measure 2 = .ok (.iload_n 2, 1) := by decide +kernel
theorem dX11_measure_3 : decode cX11_measure 3 = .ok (.bipush 30, 2) := by decide +kernel
theorem dX11_measure_5 : decode cX11_measure 5 = .ok (.if_icmp .ge 16, 3) := by decide +kernel
theorem dX11_measure_8 : decode cX11_measure 8 = .ok (.aload_n 0, 1) := by decide +kernel
theorem dX11_measure_9 : decode cX11_measure 9 = .ok (.getfield 57, 3) := by decide +kernel
theorem dX11_measure_12 : decode cX11_measure 12 = .ok (.iload_n 2, 1) := by decide +kernel
theorem dX11_measure_13 : decode cX11_measure 13 = .ok (.iconst (-1), 1) := by decide +kernel
theorem dX11_measure_14 : decode cX11_measure 14 = .ok (.iastore, 1) := by decide +kernel
theorem dX11_measure_15 : decode cX11_measure 15 = .ok (.iinc 2 1, 3) := by decide +kernel
theorem dX11_measure_18 : decode cX11_measure 18 = .ok (.goto (-16), 3) := by decide +kernel
theorem dX11_measure_21 : decode cX11_measure 21 = .ok (.aload_n 0, 1) := by decide +kernel
theorem dX11_measure_22 : decode cX11_measure 22 = .ok (.getfield 57, 3) := by decide +kernel
theorem dX11_measure_25 : decode cX11_measure 25 = .ok (.iload_n 1, 1) := by decide +kernel
theorem dX11_measure_26 : decode cX11_measure 26 = .ok (.iconst 0, 1) := by decide +kernel
theorem dX11_measure_27 : decode cX11_measure 27 = .ok (.iastore, 1) := by decide +kernel
theorem dX11_measure_28 : decode cX11_measure 28 = .ok (.aload_n 0, 1) := by decide +kernel
theorem dX11_measure_29 : decode cX11_measure 29 = .ok (.getfield 60, 3) := by decide +kernel
theorem dX11_measure_32 : decode cX11_measure 32 = .ok (.iconst 0, 1) := by decide +kernel
theorem dX11_measure_33 : decode cX11_measure 33 = .ok (.iload_n 1, 1) := by decide +kernel
theorem dX11_measure_34 : decode cX11_measure 34 = .ok (.iastore, 1) := by decide +kernel
theorem dX11_measure_35 : decode cX11_measure 35 = .ok (.iconst 1, 1) := by decide +kernel
theorem dX11_measure_36 : decode cX11_measure 36 = .ok (.istore_n 2, 1) := by decide +kernel
theorem dX11_measure_37 : decode cX11_measure 37 = .ok (.iconst 0, 1) := by decide +kernel
theorem dX11_measure_38 : decode cX11_measure 38 = .ok (.istore_n 3, 1) := by decide +kernel
theorem dX11_measure_39 : decode cX11_measure 39 = .ok (.iload_n 3, 1) := by decide +kernel
theorem dX11_measure_40 : decode cX11_measure 40 = .ok (.iload_n 2, 1) := by decide +kernel
theorem dX11_measure_41 : decode cX11_measure 41 = .ok (.if_icmp .ge 99, 3) := by decide +kernel
theorem dX11_measure_44 : decode cX11_measure 44 = .ok (.iload_n 3, 1) := by decide +kernel
theorem dX11_measure_45 : decode cX11_measure 45 = .ok (.bipush 30, 2) := by decide +kernel
theorem dX11_measure_47 : decode cX11_measure 47 = .ok (.if_icmp .ge 93, 3) := by decide +kernel
theorem dX11_measure_50 : decode cX11_measure 50 = .ok (.iconst 0, 1) := by decide +kernel
theorem dX11_measure_51 : decode cX11_measure 51 = .ok (.istore 4, 2) := by decide +kernel
theorem dX11_measure_53 : decode cX11_measure 53 = .ok (.iload 4, 2) := by decide +kernel
theorem dX11_measure_55 : decode cX11_measure 55 = .ok (.iconst 4, 1) := by decide +kernel
theorem dX11_measure_56 : decode cX11_measure 56 = .ok (.if_icmp .ge 78, 3) := by decide +kernel
theorem dX11_measure_59 : decode cX11_measure 59 = .ok (.aload_n 0, 1) := by decide +kernel
theorem dX11_measure_60 : decode cX11_measure 60 = .ok (.getfield 12, 3) := by decide +kernel
theorem dX11_measure_63 : decode cX11_measure 63 = .ok (.aload_n 0, 1) := by decide +kernel
theorem dX11_measure_64 : decode cX11_measure 64 = .ok (.getfield 60, 3) := by decide +kernel
theorem dX11_measure_67 : decode cX11_measure 67 = .ok (.iload_n 3, 1) := by decide +kernel
theorem dX11_measure_68 : decode cX11_measure 68 = .ok (.iaload, 1) := by decide +kernel
theorem dX11_measure_69 : decode cX11_measure 69 = .ok (.iload 4, 2) := by decide +kernel
theorem dX11_measure_71 : decode cX11_measure 71 = .ok (.invokevirtual 328, 3) := by decide +kernel
theorem dX11_measure_74 : decode cX11_measure 74 = .ok (.istore 5, 2) := by decide +kernel
theorem dX11_measure_76 : decode cX11_measure 76 = .ok (.iload 5, 2) := by decide +kernel
theorem dX11_measure_78 : decode cX11_measure 78 = .ok (.ifCond .lt 50, 3) := by decide +kernel
theorem dX11_measure_81 : decode cX11_measure 81 = .ok (.aload_n 0, 1) := by decide +kernel
theorem dX11_measure_82 : decode cX11_measure 82 = .ok (.getfield 57, 3) := by decide +kernel
theorem dX11_measure_85 : decode cX11_measure 85 = .ok (.iload 5, 2) := by decide +kernel
theorem dX11_measure_87 : decode cX11_measure 87 = .ok (.iaload, 1) := by decide +kernel
theorem dX11_measure_88 : decode cX11_measure 88 = .ok (.ifCond .ge 40, 3) := by decide +kernel
theorem dX11_measure_91 : decode cX11_measure 91 = .ok (.iload_n 2, 1) := by decide +kernel
theorem dX11_measure_92 : decode cX11_measure 92 = .ok (.bipush 30, 2) := by decide +kernel
theorem dX11_measure_94 : decode cX11_measure 94 = .ok (.if_icmp .ge 34, 3) := by decide +kernel
theorem dX11_measure_97 : decode cX11_measure 97 = .ok (.aload_n 0, 1) := by decide +kernel
theorem dX11_measure_98 : decode cX11_measure 98 = .ok (.getfield 57, 3) := by decide +kernel
theorem dX11_measure_101 : decode cX11_measure 101 = .ok (.iload 5, 2) := by decide +kernel
theorem dX11_measure_103 : decode cX11_measure 103 = .ok (.aload_n 0, 1) := by decide +kernel
theorem dX11_measure_104 : decode cX11_measure 104 = .ok (.getfield 57, 3) := by decide +kernel
theorem dX11_measure_107 : decode cX11_measure 107 = .ok (.aload_n 0, 1) := by decide +kernel
theorem dX11_measure_108 : decode cX11_measure 108 = .ok (.getfield 60, 3) := by decide +kernel
theorem dX11_measure_111 : decode cX11_measure 111 = .ok (.iload_n 3, 1) := by decide +kernel
theorem dX11_measure_112 : decode cX11_measure 112 = .ok (.iaload, 1) := by decide +kernel
theorem dX11_measure_113 : decode cX11_measure 113 = .ok (.iaload, 1) := by decide +kernel
theorem dX11_measure_114 : decode cX11_measure 114 = .ok (.iconst 1, 1) := by decide +kernel
theorem dX11_measure_115 : decode cX11_measure 115 = .ok (.iadd, 1) := by decide +kernel
theorem dX11_measure_116 : decode cX11_measure 116 = .ok (.iastore, 1) := by decide +kernel
theorem dX11_measure_117 : decode cX11_measure 117 = .ok (.aload_n 0, 1) := by decide +kernel
theorem dX11_measure_118 : decode cX11_measure 118 = .ok (.getfield 60, 3) := by decide +kernel
theorem dX11_measure_121 : decode cX11_measure 121 = .ok (.iload_n 2, 1) := by decide +kernel
theorem dX11_measure_122 : decode cX11_measure 122 = .ok (.iload 5, 2) := by decide +kernel
theorem dX11_measure_124 : decode cX11_measure 124 = .ok (.iastore, 1) := by decide +kernel
theorem dX11_measure_125 : decode cX11_measure 125 = .ok (.iinc 2 1, 3) := by decide +kernel
theorem dX11_measure_128 : decode cX11_measure 128 = .ok (.iinc 4 1, 3) := by decide +kernel
theorem dX11_measure_131 : decode cX11_measure 131 = .ok (.goto (-78), 3) := by decide +kernel
theorem dX11_measure_134 : decode cX11_measure 134 = .ok (.iinc 3 1, 3) := by decide +kernel
theorem dX11_measure_137 : decode cX11_measure 137 = .ok (.goto (-98), 3) := by decide +kernel
theorem dX11_measure_140 : decode cX11_measure 140 = .ok (.return_, 1) := by decide +kernel
set_option maxRecDepth 100000 in
set_option maxHeartbeats 4000000 in
theorem kX11_measure (l : Launch) (w : wT) (hw : yOk w 55) (σ : Hp) (a1 : Int32) (K : Hp → Prop) (hv : VX11_measure K σ a1) : yMet l w xcf 55 yX11_measure cX11_measure 6 none 3 [.ref (w.1 0), .int a1] σ (yQv w xcf 55 K) := by
  unfold VX11_measure at hv
  refine y_start (lv0 := [(0, .ref (w.1 0)), (1, .int a1)]) (by decide +kernel) (own := RX11) rfl hw (Nat.le_of_ble_eq_true rfl) rfl (fun p e s m below meth c A E => ?_)
  have hL39 : ∀ (n39 : Nat) (σ : Hp) (l2 : Int32) (l3 : Int32), VX11_measure_L39 K n39 σ l2 l3 → YY p l e (yRm 3) s m [.ref (w.1 0), .int a1].toArray below meth c w xcf 55 A (MQ below (yQv w xcf 55 K A) [.ref (w.1 0), .int a1].toArray s 0 0 A) 6 σ 39 [(0, .ref (w.1 0)), (2, .int l2), (3, .int l3)] [] := by
    intro n39
    induction n39 with
    | zero => exact fun _ _ _ hv => (by unfold VX11_measure_L39 at hv; exact hv.elim)
    | succ n39 ih39 =>
      have hL53 : ∀ (n53 : Nat) (σ : Hp) (l2 : Int32) (l3 : Int32) (l4 : Int32), VX11_measure_L53 K (VX11_measure_L39 K n39) n53 σ l2 l3 l4 → YY p l e (yRm 3) s m [.ref (w.1 0), .int a1].toArray below meth c w xcf 55 A (MQ below (yQv w xcf 55 K A) [.ref (w.1 0), .int a1].toArray s 0 0 A) 6 σ 53 [(0, .ref (w.1 0)), (2, .int l2), (3, .int l3), (4, .int l4)] [] := by
        intro n53
        induction n53 with
        | zero => exact fun _ _ _ _ hv => (by unfold VX11_measure_L53 at hv; exact hv.elim)
        | succ n53 ih53 =>
          intro σ l2 l3 l4 hv
          unfold VX11_measure_L53 at hv
          refine y_iload E dX11_measure_53 3 rfl ?_
          refine y_iconst (v := 4) E dX11_measure_55 (by decide) ?_
          refine y_icmp_ge (tgt := 134) E dX11_measure_56 (by decide) (fun c8 => ?_) (fun c8 => ?_)
          · replace hv := ite_t hv c8
            obtain ⟨x9, hx9⟩ : ∃ z : Int32, z = l3 + 1 := ⟨_, rfl⟩
            replace hv := hv x9 hx9
            refine y_iinc (v := x9) (lv' := [(3, .int x9), (0, .ref (w.1 0)), (2, .int l2), (4, .int l4)]) E dX11_measure_134 2 rfl (by rw [hx9]; rfl) (by decide) rfl ?_
            refine y_goto (tgt := 39) E dX11_measure_137 (by decide) ?_
            refine y_lv (lv' := [(0, .ref (w.1 0)), (2, .int l2), (3, .int x9)]) [1, 2, 0] rfl ?_
            exact ih39 σ l2 x9 hv
          · replace hv := ite_f hv c8
            refine y_aload_n E dX11_measure_59 0 rfl ?_
            refine gf_X11_0 E (by decide) (by decide) wm_272 dX11_measure_60 ?_
            refine y_aload_n E dX11_measure_63 0 rfl ?_
            refine gf_X11_11 E (by decide) (by decide) wm_469 dX11_measure_64 ?_
            refine y_iload_n E dX11_measure_67 2 rfl ?_
            obtain ⟨hi, hv⟩ := hv
            refine y_iald E (Nat.lt_of_lt_of_le (show 52 < 53 by decide) (by decide)) (xc_queue (by decide) (by decide)) hi dX11_measure_68 ?_
            refine y_iload E dX11_measure_69 3 rfl ?_
            refine y_calli E (y_runV E (rest := []) (kX3_beyond l w E.2.2.1 σ 1 (σ 52 l3.toNatClampNeg) l4 _ hv) (y_cwV 2 E.1.2.2.2.2 wm_470 wm_121 wm_122 wm_123 wm_124 (by decide +kernel) (yRm_le (by decide) (by decide))) (Nat.lt_of_lt_of_le (show 1 < 3 by decide) (by decide)) (xc_X3 (by decide) (by decide)) rfl rfl rfl (Nat.le_of_ble_eq_true rfl) dX11_measure_71) (fun v10 u11 hk => ?_)
            clear hv
            have hv := hk
            clear hk
            refine y_istore (lv' := [(5, .int v10), (0, .ref (w.1 0)), (2, .int l2), (3, .int l3), (4, .int l4)]) E dX11_measure_74 (by decide) rfl ?_
            refine y_iload E dX11_measure_76 0 rfl ?_
            refine y_if_lt (tgt := 128) E dX11_measure_78 (by decide) (fun c12 => ?_) (fun c12 => ?_)
            · replace hv := ite_t hv c12
              obtain ⟨x13, hx13⟩ : ∃ z : Int32, z = l4 + 1 := ⟨_, rfl⟩
              replace hv := hv x13 hx13
              refine y_iinc (v := x13) (lv' := [(4, .int x13), (5, .int v10), (0, .ref (w.1 0)), (2, .int l2), (3, .int l3)]) E dX11_measure_128 4 rfl (by rw [hx13]; rfl) (by decide) rfl ?_
              refine y_goto (tgt := 53) E dX11_measure_131 (by decide) ?_
              refine y_lv (lv' := [(0, .ref (w.1 0)), (2, .int l2), (3, .int l3), (4, .int x13)]) [2, 3, 4, 0] rfl ?_
              exact ih53 u11 l2 l3 x13 hv
            · replace hv := ite_f hv c12
              refine y_aload_n E dX11_measure_81 1 rfl ?_
              refine gf_X11_10 E (by decide) (by decide) wm_468 dX11_measure_82 ?_
              refine y_iload E dX11_measure_85 0 rfl ?_
              obtain ⟨hi, hv⟩ := hv
              refine y_iald E (Nat.lt_of_lt_of_le (show 51 < 52 by decide) (by decide)) (xc_far (by decide) (by decide)) hi dX11_measure_87 ?_
              refine y_if_ge (tgt := 128) E dX11_measure_88 (by decide) (fun c14 => ?_) (fun c14 => ?_)
              · replace hv := ite_t hv c14
                obtain ⟨x15, hx15⟩ : ∃ z : Int32, z = l4 + 1 := ⟨_, rfl⟩
                replace hv := hv x15 hx15
                refine y_iinc (v := x15) (lv' := [(4, .int x15), (5, .int v10), (0, .ref (w.1 0)), (2, .int l2), (3, .int l3)]) E dX11_measure_128 4 rfl (by rw [hx15]; rfl) (by decide) rfl ?_
                refine y_goto (tgt := 53) E dX11_measure_131 (by decide) ?_
                refine y_lv (lv' := [(0, .ref (w.1 0)), (2, .int l2), (3, .int l3), (4, .int x15)]) [2, 3, 4, 0] rfl ?_
                exact ih53 u11 l2 l3 x15 hv
              · replace hv := ite_f hv c14
                refine y_iload_n E dX11_measure_91 2 rfl ?_
                refine y_bipush (v := 30) E dX11_measure_92 (by decide) ?_
                refine y_icmp_ge (tgt := 128) E dX11_measure_94 (by decide) (fun c16 => ?_) (fun c16 => ?_)
                · replace hv := ite_t hv c16
                  obtain ⟨x17, hx17⟩ : ∃ z : Int32, z = l4 + 1 := ⟨_, rfl⟩
                  replace hv := hv x17 hx17
                  refine y_iinc (v := x17) (lv' := [(4, .int x17), (5, .int v10), (0, .ref (w.1 0)), (2, .int l2), (3, .int l3)]) E dX11_measure_128 4 rfl (by rw [hx17]; rfl) (by decide) rfl ?_
                  refine y_goto (tgt := 53) E dX11_measure_131 (by decide) ?_
                  refine y_lv (lv' := [(0, .ref (w.1 0)), (2, .int l2), (3, .int l3), (4, .int x17)]) [2, 3, 4, 0] rfl ?_
                  exact ih53 u11 l2 l3 x17 hv
                · replace hv := ite_f hv c16
                  refine y_aload_n E dX11_measure_97 1 rfl ?_
                  refine gf_X11_10 E (by decide) (by decide) wm_468 dX11_measure_98 ?_
                  refine y_iload E dX11_measure_101 0 rfl ?_
                  refine y_aload_n E dX11_measure_103 1 rfl ?_
                  refine gf_X11_10 E (by decide) (by decide) wm_468 dX11_measure_104 ?_
                  refine y_aload_n E dX11_measure_107 1 rfl ?_
                  refine gf_X11_11 E (by decide) (by decide) wm_469 dX11_measure_108 ?_
                  refine y_iload_n E dX11_measure_111 3 rfl ?_
                  obtain ⟨hi, hv⟩ := hv
                  refine y_iald E (Nat.lt_of_lt_of_le (show 52 < 53 by decide) (by decide)) (xc_queue (by decide) (by decide)) hi dX11_measure_112 ?_
                  obtain ⟨hi, hv⟩ := hv
                  refine y_iald E (Nat.lt_of_lt_of_le (show 51 < 52 by decide) (by decide)) (xc_far (by decide) (by decide)) hi dX11_measure_113 ?_
                  refine y_iconst (v := 1) E dX11_measure_114 (by decide) ?_
                  refine y_iadd E dX11_measure_115 ?_
                  obtain ⟨hi, hv⟩ := hv
                  refine y_iast E (Nat.lt_of_lt_of_le (show 51 < 52 by decide) (by decide)) (fun _ => xc_far (by decide) (by decide)) hi dX11_measure_116 ?_
                  refine y_nmH (fun u18 hu18 => ?_)
                  replace hv := hv u18 hu18
                  refine y_aload_n E dX11_measure_117 1 rfl ?_
                  refine gf_X11_11 E (by decide) (by decide) wm_469 dX11_measure_118 ?_
                  refine y_iload_n E dX11_measure_121 2 rfl ?_
                  refine y_iload E dX11_measure_122 0 rfl ?_
                  obtain ⟨hi, hv⟩ := hv
                  refine y_iast E (Nat.lt_of_lt_of_le (show 52 < 53 by decide) (by decide)) (fun _ => xc_queue (by decide) (by decide)) hi dX11_measure_124 ?_
                  refine y_nmH (fun u19 hu19 => ?_)
                  replace hv := hv u19 hu19
                  obtain ⟨x20, hx20⟩ : ∃ z : Int32, z = l2 + 1 := ⟨_, rfl⟩
                  replace hv := hv x20 hx20
                  refine y_iinc (v := x20) (lv' := [(2, .int x20), (5, .int v10), (0, .ref (w.1 0)), (3, .int l3), (4, .int l4)]) E dX11_measure_125 2 rfl (by rw [hx20]; rfl) (by decide) rfl ?_
                  obtain ⟨x21, hx21⟩ : ∃ z : Int32, z = l4 + 1 := ⟨_, rfl⟩
                  replace hv := hv x21 hx21
                  refine y_iinc (v := x21) (lv' := [(4, .int x21), (2, .int x20), (5, .int v10), (0, .ref (w.1 0)), (3, .int l3)]) E dX11_measure_128 4 rfl (by rw [hx21]; rfl) (by decide) rfl ?_
                  refine y_goto (tgt := 53) E dX11_measure_131 (by decide) ?_
                  refine y_lv (lv' := [(0, .ref (w.1 0)), (2, .int x20), (3, .int l3), (4, .int x21)]) [3, 1, 4, 0] rfl ?_
                  exact ih53 u19 x20 l3 x21 hv
      intro σ l2 l3 hv
      unfold VX11_measure_L39 at hv
      refine y_iload_n E dX11_measure_39 2 rfl ?_
      refine y_iload_n E dX11_measure_40 1 rfl ?_
      refine y_icmp_ge (tgt := 140) E dX11_measure_41 (by decide) (fun c6 => ?_) (fun c6 => ?_)
      · replace hv := ite_t hv c6
        exact y_vret E dX11_measure_140 hv
      · replace hv := ite_f hv c6
        refine y_iload_n E dX11_measure_44 2 rfl ?_
        refine y_bipush (v := 30) E dX11_measure_45 (by decide) ?_
        refine y_icmp_ge (tgt := 140) E dX11_measure_47 (by decide) (fun c7 => ?_) (fun c7 => ?_)
        · replace hv := ite_t hv c7
          exact y_vret E dX11_measure_140 hv
        · replace hv := ite_f hv c7
          refine y_iconst (v := 0) E dX11_measure_50 (by decide) ?_
          refine y_istore (lv' := [(4, .int 0), (0, .ref (w.1 0)), (2, .int l2), (3, .int l3)]) E dX11_measure_51 (by decide) rfl ?_
          refine y_lv (lv' := [(0, .ref (w.1 0)), (2, .int l2), (3, .int l3), (4, .int 0)]) [1, 2, 3, 0] rfl ?_
          obtain ⟨n0, hv⟩ := hv
          exact hL53 n0 σ l2 l3 0 hv
  have hL2 : ∀ (n2 : Nat) (σ : Hp) (l1 : Int32) (l2 : Int32), VX11_measure_L2 K n2 σ l1 l2 → YY p l e (yRm 3) s m [.ref (w.1 0), .int a1].toArray below meth c w xcf 55 A (MQ below (yQv w xcf 55 K A) [.ref (w.1 0), .int a1].toArray s 0 0 A) 6 σ 2 [(0, .ref (w.1 0)), (1, .int l1), (2, .int l2)] [] := by
    intro n2
    induction n2 with
    | zero => exact fun _ _ _ hv => (by unfold VX11_measure_L2 at hv; exact hv.elim)
    | succ n2 ih2 =>
      intro σ l1 l2 hv
      unfold VX11_measure_L2 at hv
      refine y_iload_n E dX11_measure_2 2 rfl ?_
      refine y_bipush (v := 30) E dX11_measure_3 (by decide) ?_
      refine y_icmp_ge (tgt := 21) E dX11_measure_5 (by decide) (fun c1 => ?_) (fun c1 => ?_)
      · replace hv := ite_t hv c1
        refine y_aload_n E dX11_measure_21 0 rfl ?_
        refine gf_X11_10 E (by decide) (by decide) wm_468 dX11_measure_22 ?_
        refine y_iload_n E dX11_measure_25 1 rfl ?_
        refine y_iconst (v := 0) E dX11_measure_26 (by decide) ?_
        obtain ⟨hi, hv⟩ := hv
        refine y_iast E (Nat.lt_of_lt_of_le (show 51 < 52 by decide) (by decide)) (fun _ => xc_far (by decide) (by decide)) hi dX11_measure_27 ?_
        refine y_nmH (fun u2 hu2 => ?_)
        replace hv := hv u2 hu2
        refine y_aload_n E dX11_measure_28 0 rfl ?_
        refine gf_X11_11 E (by decide) (by decide) wm_469 dX11_measure_29 ?_
        refine y_iconst (v := 0) E dX11_measure_32 (by decide) ?_
        refine y_iload_n E dX11_measure_33 1 rfl ?_
        refine y_iastc (j := 0) E (Nat.lt_of_lt_of_le (show 52 < 53 by decide) (by decide)) (fun _ => xc_queue (by decide) (by decide)) (by decide) (by decide) dX11_measure_34 ?_
        refine y_nmH (fun u3 hu3 => ?_)
        replace hv := hv u3 hu3
        refine y_iconst (v := 1) E dX11_measure_35 (by decide) ?_
        refine y_istore_n (lv' := [(2, .int 1), (0, .ref (w.1 0)), (1, .int l1)]) E dX11_measure_36 (by decide) rfl ?_
        refine y_iconst (v := 0) E dX11_measure_37 (by decide) ?_
        refine y_istore_n (lv' := [(3, .int 0), (2, .int 1), (0, .ref (w.1 0)), (1, .int l1)]) E dX11_measure_38 (by decide) rfl ?_
        refine y_lv (lv' := [(0, .ref (w.1 0)), (2, .int 1), (3, .int 0)]) [2, 1, 0] rfl ?_
        obtain ⟨n0, hv⟩ := hv
        exact hL39 n0 u3 1 0 hv
      · replace hv := ite_f hv c1
        refine y_aload_n E dX11_measure_8 0 rfl ?_
        refine gf_X11_10 E (by decide) (by decide) wm_468 dX11_measure_9 ?_
        refine y_iload_n E dX11_measure_12 2 rfl ?_
        refine y_iconst (v := (-1)) E dX11_measure_13 (by decide) ?_
        obtain ⟨hi, hv⟩ := hv
        refine y_iast E (Nat.lt_of_lt_of_le (show 51 < 52 by decide) (by decide)) (fun _ => xc_far (by decide) (by decide)) hi dX11_measure_14 ?_
        refine y_nmH (fun u4 hu4 => ?_)
        replace hv := hv u4 hu4
        obtain ⟨x5, hx5⟩ : ∃ z : Int32, z = l2 + 1 := ⟨_, rfl⟩
        replace hv := hv x5 hx5
        refine y_iinc (v := x5) (lv' := [(2, .int x5), (0, .ref (w.1 0)), (1, .int l1)]) E dX11_measure_15 2 rfl (by rw [hx5]; rfl) (by decide) rfl ?_
        refine y_goto (tgt := 2) E dX11_measure_18 (by decide) ?_
        refine y_lv (lv' := [(0, .ref (w.1 0)), (1, .int l1), (2, .int x5)]) [1, 2, 0] rfl ?_
        exact ih2 u4 l1 x5 hv
  refine y_iconst (v := 0) E dX11_measure_0 (by decide) ?_
  refine y_istore_n (lv' := [(2, .int 0), (0, .ref (w.1 0)), (1, .int a1)]) E dX11_measure_1 (by decide) rfl ?_
  refine y_lv (lv' := [(0, .ref (w.1 0)), (1, .int a1), (2, .int 0)]) [1, 2, 0] rfl ?_
  obtain ⟨n0, hv⟩ := hv
  exact hL2 n0 σ a1 0 hv
theorem dX11_says_0 : decode cX11_says 0 = .ok (.aload_n 0, 1) := by decide +kernel
theorem dX11_says_1 : decode cX11_says 1 = .ok (.invokevirtual 151, 3) := by decide +kernel
theorem dX11_says_4 : decode cX11_says 4 = .ok (.iload_n 1, 1) := by decide +kernel
theorem dX11_says_5 : decode cX11_says 5 = .ok (.iload_n 2, 1) := by decide +kernel
theorem dX11_says_6 : decode cX11_says 6 = .ok (.aload_n 0, 1) := by decide +kernel
theorem dX11_says_7 : decode cX11_says 7 = .ok (.getfield 12, 3) := by decide +kernel
theorem dX11_says_10 : decode cX11_says 10 = .ok (.getfield 119, 3) := by decide +kernel
theorem dX11_says_13 : decode cX11_says 13 = .ok (.iload_n 3, 1) := by decide +kernel
theorem dX11_says_14 : decode cX11_says 14 = .ok (.aload_n 0, 1) := by decide +kernel
theorem dX11_says_15 : decode cX11_says 15 = .ok (.getfield 12, 3) := by decide +kernel
theorem dX11_says_18 : decode cX11_says 18 = .ok (.getfield 166, 3) := by decide +kernel
theorem dX11_says_21 : decode cX11_says 21 = .ok (.iload_n 3, 1) := by decide +kernel
theorem dX11_says_22 : decode cX11_says 22 = .ok (.iaload, 1) := by decide +kernel
theorem dX11_says_23 : decode cX11_says 23 = .ok (.invokevirtual 154, 3) := by decide +kernel
theorem dX11_says_26 : decode cX11_says 26 = .ok (.ireturn, 1) := by decide +kernel
set_option maxRecDepth 100000 in
set_option maxHeartbeats 4000000 in
theorem kX11_says (l : Launch) (w : wT) (hw : yOk w 55) (σ : Hp) (a1 : Int32) (a2 : Int32) (a3 : Int32) (K : Int32 → Hp → Prop) (hv : VX11_says K σ a1 a2 a3) : yMet l w xcf 55 yX11_says cX11_says 4 (some .int) 3 [.ref (w.1 0), .int a1, .int a2, .int a3] σ (yQi w xcf 55 K) := by
  unfold VX11_says at hv
  refine y_start (lv0 := [(0, .ref (w.1 0)), (1, .int a1), (2, .int a2), (3, .int a3)]) (by decide +kernel) (own := RX11) rfl hw (Nat.le_of_ble_eq_true rfl) rfl (fun p e s m below meth c A E => ?_)
  refine y_aload_n E dX11_says_0 0 rfl ?_
  refine y_callr E (y_runV E (rest := []) (kX11_law l w E.2.2.1 σ _ hv) (y_cwV 0 E.1.2.2.2.2 wm_306 wm_308 wm_309 wm_116 wm_310 (by decide +kernel) (yRm_le (by decide) (by decide))) (Nat.lt_of_lt_of_le (show 0 < 1 by decide) (by decide)) (xc_X11 (by decide) (by decide)) rfl rfl rfl (Nat.le_of_ble_eq_true rfl) dX11_says_1) (fun v1 u2 hk => ?_)
  clear hv
  have hv := hk
  clear hk
  obtain ⟨hgv1, hv⟩ := hv
  refine y_iload_n E dX11_says_4 1 rfl ?_
  refine y_iload_n E dX11_says_5 2 rfl ?_
  refine y_aload_n E dX11_says_6 0 rfl ?_
  refine gf_X11_0 E (by decide) (by decide) wm_272 dX11_says_7 ?_
  refine gf_X3_3 E (by decide) (by decide) wm_283 dX11_says_10 ?_
  refine y_iload_n E dX11_says_13 3 rfl ?_
  refine y_aload_n E dX11_says_14 0 rfl ?_
  refine gf_X11_0 E (by decide) (by decide) wm_272 dX11_says_15 ?_
  refine gf_X3_7 (q := 4) E (by decide) (by decide) rfl wm_314 dX11_says_18 ?_
  refine y_iload_n E dX11_says_21 3 rfl ?_
  obtain ⟨hi, hv⟩ := hv
  refine y_iald E (Nat.lt_of_lt_of_le (show 4 < 11 by decide) (by decide)) (xc_harr (by decide) (by decide)) hi dX11_says_22 ?_
  refine y_calli E (y_runV E (rest := []) (kX9_says l w E.2.2.1 u2 v1 a1 a2 (u2 1 3) a3 (u2 4 a3.toNatClampNeg) _ hv) (y_cwV 5 E.1.2.2.2.2 wm_307 wm_111 wm_112 wm_113 wm_114 (by decide +kernel) (yRm_le (by decide) (by decide))) (Nat.lt_of_lt_of_le hgv1.2 (by decide)) (xc_X9 hgv1.1 hgv1.2) rfl rfl rfl (Nat.le_of_ble_eq_true rfl) dX11_says_23) (fun v3 u4 hk => ?_)
  clear hv
  have hv := hk
  clear hk
  exact y_iret E dX11_says_26 hv
theorem dX11_soonest_0 : decode cX11_soonest 0 = .ok (.aload_n 0, 1) := by decide +kernel
theorem dX11_soonest_1 : decode cX11_soonest 1 = .ok (.iconst 2, 1) := by decide +kernel
theorem dX11_soonest_2 : decode cX11_soonest 2 = .ok (.iload_n 1, 1) := by decide +kernel
theorem dX11_soonest_3 : decode cX11_soonest 3 = .ok (.iload_n 2, 1) := by decide +kernel
theorem dX11_soonest_4 : decode cX11_soonest 4 = .ok (.invokevirtual 220, 3) := by decide +kernel
theorem dX11_soonest_7 : decode cX11_soonest 7 = .ok (.istore_n 3, 1) := by decide +kernel
theorem dX11_soonest_8 : decode cX11_soonest 8 = .ok (.iconst 0, 1) := by decide +kernel
theorem dX11_soonest_9 : decode cX11_soonest 9 = .ok (.istore 4, 2) := by decide +kernel
theorem dX11_soonest_11 : decode cX11_soonest 11 = .ok (.iload 4, 2) := by decide +kernel
theorem dX11_soonest_13 : decode cX11_soonest 13 = .ok (.bipush 40, 2) := by decide +kernel
theorem dX11_soonest_15 : decode cX11_soonest 15 = .ok (.if_icmp .gt 40, 3) := by decide +kernel
theorem dX11_soonest_18 : decode cX11_soonest 18 = .ok (.aload_n 0, 1) := by decide +kernel
theorem dX11_soonest_19 : decode cX11_soonest 19 = .ok (.getfield 57, 3) := by decide +kernel
theorem dX11_soonest_22 : decode cX11_soonest 22 = .ok (.aload_n 0, 1) := by decide +kernel
theorem dX11_soonest_23 : decode cX11_soonest 23 = .ok (.getfield 53, 3) := by decide +kernel
theorem dX11_soonest_26 : decode cX11_soonest 26 = .ok (.iload 4, 2) := by decide +kernel
theorem dX11_soonest_28 : decode cX11_soonest 28 = .ok (.iaload, 1) := by decide +kernel
theorem dX11_soonest_29 : decode cX11_soonest 29 = .ok (.iaload, 1) := by decide +kernel
theorem dX11_soonest_30 : decode cX11_soonest 30 = .ok (.istore 5, 2) := by decide +kernel
theorem dX11_soonest_32 : decode cX11_soonest 32 = .ok (.iload 5, 2) := by decide +kernel
theorem dX11_soonest_34 : decode cX11_soonest 34 = .ok (.ifCond .lt 15, 3) := by decide +kernel
theorem dX11_soonest_37 : decode cX11_soonest 37 = .ok (.iload 5, 2) := by decide +kernel
theorem dX11_soonest_39 : decode cX11_soonest 39 = .ok (.iload 4, 2) := by decide +kernel
theorem dX11_soonest_41 : decode cX11_soonest 41 = .ok (.iload_n 3, 1) := by decide +kernel
theorem dX11_soonest_42 : decode cX11_soonest 42 = .ok (.imul, 1) := by decide +kernel
theorem dX11_soonest_43 : decode cX11_soonest 43 = .ok (.if_icmp .gt 6, 3) := by decide +kernel
theorem dX11_soonest_46 : decode cX11_soonest 46 = .ok (.iload 4, 2) := by decide +kernel
theorem dX11_soonest_48 : decode cX11_soonest 48 = .ok (.ireturn, 1) := by decide +kernel
theorem dX11_soonest_49 : decode cX11_soonest 49 = .ok (.iinc 4 1, 3) := by decide +kernel
theorem dX11_soonest_52 : decode cX11_soonest 52 = .ok (.goto (-41), 3) := by decide +kernel
theorem dX11_soonest_55 : decode cX11_soonest 55 = .ok (.iconst (-1), 1) := by decide +kernel
theorem dX11_soonest_56 : decode cX11_soonest 56 = .ok (.ireturn, 1) := by decide +kernel
set_option maxRecDepth 100000 in
set_option maxHeartbeats 4000000 in
theorem kX11_soonest (l : Launch) (w : wT) (hw : yOk w 55) (σ : Hp) (a1 : Int32) (a2 : Int32) (K : Int32 → Hp → Prop) (hv : VX11_soonest K σ a1 a2) : yMet l w xcf 55 yX11_soonest cX11_soonest 6 (some .int) 4 [.ref (w.1 0), .int a1, .int a2] σ (yQi w xcf 55 K) := by
  unfold VX11_soonest at hv
  refine y_start (lv0 := [(0, .ref (w.1 0)), (1, .int a1), (2, .int a2)]) (by decide +kernel) (own := RX11) rfl hw (Nat.le_of_ble_eq_true rfl) rfl (fun p e s m below meth c A E => ?_)
  have hL11 : ∀ (n11 : Nat) (σ : Hp) (l3 : Int32) (l4 : Int32), VX11_soonest_L11 K n11 σ l3 l4 → YY p l e (yRm 4) s m [.ref (w.1 0), .int a1, .int a2].toArray below meth c w xcf 55 A (MQ below (yQi w xcf 55 K A) [.ref (w.1 0), .int a1, .int a2].toArray s 0 0 A) 6 σ 11 [(0, .ref (w.1 0)), (3, .int l3), (4, .int l4)] [] := by
    intro n11
    induction n11 with
    | zero => exact fun _ _ _ hv => (by unfold VX11_soonest_L11 at hv; exact hv.elim)
    | succ n11 ih11 =>
      intro σ l3 l4 hv
      unfold VX11_soonest_L11 at hv
      refine y_iload E dX11_soonest_11 2 rfl ?_
      refine y_bipush (v := 40) E dX11_soonest_13 (by decide) ?_
      refine y_icmp_gt (tgt := 55) E dX11_soonest_15 (by decide) (fun c3 => ?_) (fun c3 => ?_)
      · replace hv := ite_t hv c3
        refine y_iconst (v := (-1)) E dX11_soonest_55 (by decide) ?_
        exact y_iret E dX11_soonest_56 hv
      · replace hv := ite_f hv c3
        refine y_aload_n E dX11_soonest_18 0 rfl ?_
        refine gf_X11_10 E (by decide) (by decide) wm_468 dX11_soonest_19 ?_
        refine y_aload_n E dX11_soonest_22 0 rfl ?_
        refine gf_X11_9 E (by decide) (by decide) wm_351 dX11_soonest_23 ?_
        refine y_iload E dX11_soonest_26 2 rfl ?_
        obtain ⟨hi, hv⟩ := hv
        refine y_iald E (Nat.lt_of_lt_of_le (show 50 < 51 by decide) (by decide)) (xc_path (by decide) (by decide)) hi dX11_soonest_28 ?_
        obtain ⟨hi, hv⟩ := hv
        refine y_iald E (Nat.lt_of_lt_of_le (show 51 < 52 by decide) (by decide)) (xc_far (by decide) (by decide)) hi dX11_soonest_29 ?_
        refine y_nmi (fun x4 hx4 => ?_)
        replace hv := hv x4 hx4
        refine y_istore (lv' := [(5, .int x4), (0, .ref (w.1 0)), (3, .int l3), (4, .int l4)]) E dX11_soonest_30 (by decide) rfl ?_
        refine y_iload E dX11_soonest_32 0 rfl ?_
        refine y_if_lt (tgt := 49) E dX11_soonest_34 (by decide) (fun c5 => ?_) (fun c5 => ?_)
        · replace hv := ite_t hv c5
          obtain ⟨x6, hx6⟩ : ∃ z : Int32, z = l4 + 1 := ⟨_, rfl⟩
          replace hv := hv x6 hx6
          refine y_iinc (v := x6) (lv' := [(4, .int x6), (5, .int x4), (0, .ref (w.1 0)), (3, .int l3)]) E dX11_soonest_49 3 rfl (by rw [hx6]; rfl) (by decide) rfl ?_
          refine y_goto (tgt := 11) E dX11_soonest_52 (by decide) ?_
          refine y_lv (lv' := [(0, .ref (w.1 0)), (3, .int l3), (4, .int x6)]) [2, 3, 0] rfl ?_
          exact ih11 σ l3 x6 hv
        · replace hv := ite_f hv c5
          refine y_iload E dX11_soonest_37 0 rfl ?_
          refine y_iload E dX11_soonest_39 3 rfl ?_
          refine y_iload_n E dX11_soonest_41 2 rfl ?_
          refine y_imul E dX11_soonest_42 ?_
          refine y_icmp_gt (tgt := 49) E dX11_soonest_43 (by decide) (fun c7 => ?_) (fun c7 => ?_)
          · replace hv := ite_t hv c7
            obtain ⟨x8, hx8⟩ : ∃ z : Int32, z = l4 + 1 := ⟨_, rfl⟩
            replace hv := hv x8 hx8
            refine y_iinc (v := x8) (lv' := [(4, .int x8), (5, .int x4), (0, .ref (w.1 0)), (3, .int l3)]) E dX11_soonest_49 3 rfl (by rw [hx8]; rfl) (by decide) rfl ?_
            refine y_goto (tgt := 11) E dX11_soonest_52 (by decide) ?_
            refine y_lv (lv' := [(0, .ref (w.1 0)), (3, .int l3), (4, .int x8)]) [2, 3, 0] rfl ?_
            exact ih11 σ l3 x8 hv
          · replace hv := ite_f hv c7
            refine y_iload E dX11_soonest_46 3 rfl ?_
            exact y_iret E dX11_soonest_48 hv
  refine y_aload_n E dX11_soonest_0 0 rfl ?_
  refine y_iconst (v := 2) E dX11_soonest_1 (by decide) ?_
  refine y_iload_n E dX11_soonest_2 1 rfl ?_
  refine y_iload_n E dX11_soonest_3 2 rfl ?_
  refine y_calli E (y_runV E (rest := []) (kX11_says l w E.2.2.1 σ 2 a1 a2 _ hv) (y_cwV 3 E.1.2.2.2.2 wm_361 wm_362 wm_363 wm_116 wm_364 (by decide +kernel) (yRm_le (by decide) (by decide))) (Nat.lt_of_lt_of_le (show 0 < 1 by decide) (by decide)) (xc_X11 (by decide) (by decide)) rfl rfl rfl (Nat.le_of_ble_eq_true rfl) dX11_soonest_4) (fun v1 u2 hk => ?_)
  clear hv
  have hv := hk
  clear hk
  refine y_istore_n (lv' := [(3, .int v1), (0, .ref (w.1 0)), (1, .int a1), (2, .int a2)]) E dX11_soonest_7 (by decide) rfl ?_
  refine y_iconst (v := 0) E dX11_soonest_8 (by decide) ?_
  refine y_istore (lv' := [(4, .int 0), (3, .int v1), (0, .ref (w.1 0)), (1, .int a1), (2, .int a2)]) E dX11_soonest_9 (by decide) rfl ?_
  refine y_lv (lv' := [(0, .ref (w.1 0)), (3, .int v1), (4, .int 0)]) [2, 1, 0] rfl ?_
  obtain ⟨n0, hv⟩ := hv
  exact hL11 n0 u2 v1 0 hv
theorem dX11_hand_0 : decode cX11_hand 0 = .ok (.aload_n 0, 1) := by decide +kernel
theorem dX11_hand_1 : decode cX11_hand 1 = .ok (.iload_n 1, 1) := by decide +kernel
theorem dX11_hand_2 : decode cX11_hand 2 = .ok (.invokevirtual 158, 3) := by decide +kernel
theorem dX11_hand_5 : decode cX11_hand 5 = .ok (.ifCond .eq 11, 3) := by decide +kernel
theorem dX11_hand_8 : decode cX11_hand 8 = .ok (.aload_n 0, 1) := by decide +kernel
theorem dX11_hand_9 : decode cX11_hand 9 = .ok (.iload_n 2, 1) := by decide +kernel
theorem dX11_hand_10 : decode cX11_hand 10 = .ok (.invokevirtual 175, 3) := by decide +kernel
theorem dX11_hand_13 : decode cX11_hand 13 = .ok (.ifCond .ne 6, 3) := by decide +kernel
theorem dX11_hand_16 : decode cX11_hand 16 = .ok (.bipush (-5), 2) := by decide +kernel
theorem dX11_hand_18 : decode cX11_hand 18 = .ok (.ireturn, 1) := by decide +kernel
theorem dX11_hand_19 : decode cX11_hand 19 = .ok (.aload_n 0, 1) := by decide +kernel
theorem dX11_hand_20 : decode cX11_hand 20 = .ok (.iload_n 1, 1) := by decide +kernel
theorem dX11_hand_21 : decode cX11_hand 21 = .ok (.invokevirtual 214, 3) := by decide +kernel
theorem dX11_hand_24 : decode cX11_hand 24 = .ok (.aload_n 0, 1) := by decide +kernel
theorem dX11_hand_25 : decode cX11_hand 25 = .ok (.aload_n 0, 1) := by decide +kernel
theorem dX11_hand_26 : decode cX11_hand 26 = .ok (.iload_n 2, 1) := by decide +kernel
theorem dX11_hand_27 : decode cX11_hand 27 = .ok (.invokevirtual 200, 3) := by decide +kernel
theorem dX11_hand_30 : decode cX11_hand 30 = .ok (.invokevirtual 204, 3) := by decide +kernel
theorem dX11_hand_33 : decode cX11_hand 33 = .ok (.aload_n 0, 1) := by decide +kernel
theorem dX11_hand_34 : decode cX11_hand 34 = .ok (.iload_n 1, 1) := by decide +kernel
theorem dX11_hand_35 : decode cX11_hand 35 = .ok (.iload_n 2, 1) := by decide +kernel
theorem dX11_hand_36 : decode cX11_hand 36 = .ok (.invokevirtual 217, 3) := by decide +kernel
theorem dX11_hand_39 : decode cX11_hand 39 = .ok (.ireturn, 1) := by decide +kernel
set_option maxRecDepth 100000 in
set_option maxHeartbeats 4000000 in
theorem kX11_hand (l : Launch) (w : wT) (hw : yOk w 55) (σ : Hp) (a1 : Int32) (a2 : Int32) (K : Int32 → Hp → Prop) (hv : VX11_hand K σ a1 a2) : yMet l w xcf 55 yX11_hand cX11_hand 3 (some .int) 6 [.ref (w.1 0), .int a1, .int a2] σ (yQi w xcf 55 K) := by
  unfold VX11_hand at hv
  refine y_start (lv0 := [(0, .ref (w.1 0)), (1, .int a1), (2, .int a2)]) (by decide +kernel) (own := RX11) rfl hw (Nat.le_of_ble_eq_true rfl) rfl (fun p e s m below meth c A E => ?_)
  refine y_aload_n E dX11_hand_0 0 rfl ?_
  refine y_iload_n E dX11_hand_1 1 rfl ?_
  refine y_calli E (y_runV E (rest := []) (kX11_isOpen l w E.2.2.1 σ a1 _ hv) (y_cwV 1 E.1.2.2.2.2 wm_311 wm_319 wm_320 wm_116 wm_321 (by decide +kernel) (yRm_le (by decide) (by decide))) (Nat.lt_of_lt_of_le (show 0 < 1 by decide) (by decide)) (xc_X11 (by decide) (by decide)) rfl rfl rfl (Nat.le_of_ble_eq_true rfl) dX11_hand_2) (fun v1 u2 hk => ?_)
  clear hv
  have hv := hk
  clear hk
  refine y_if_eq (tgt := 16) E dX11_hand_5 (by decide) (fun c3 => ?_) (fun c3 => ?_)
  · replace hv := ite_t hv c3
    refine y_bipush (v := (-5)) E dX11_hand_16 (by decide) ?_
    exact y_iret E dX11_hand_18 hv
  · replace hv := ite_f hv c3
    refine y_aload_n E dX11_hand_8 0 rfl ?_
    refine y_iload_n E dX11_hand_9 2 rfl ?_
    refine y_calli E (y_runV E (rest := []) (kX11_isThing l w E.2.2.1 u2 a2 _ hv) (y_cwV 1 E.1.2.2.2.2 wm_322 wm_323 wm_324 wm_116 wm_325 (by decide +kernel) (yRm_le (by decide) (by decide))) (Nat.lt_of_lt_of_le (show 0 < 1 by decide) (by decide)) (xc_X11 (by decide) (by decide)) rfl rfl rfl (Nat.le_of_ble_eq_true rfl) dX11_hand_10) (fun v4 u5 hk => ?_)
    clear hv
    have hv := hk
    clear hk
    refine y_if_ne (tgt := 19) E dX11_hand_13 (by decide) (fun c6 => ?_) (fun c6 => ?_)
    · replace hv := ite_f hv c6
      refine y_aload_n E dX11_hand_19 0 rfl ?_
      refine y_iload_n E dX11_hand_20 1 rfl ?_
      refine y_callv E (y_runV E (rest := []) (kX11_measure l w E.2.2.1 u5 a1 _ hv) (y_cwV 1 E.1.2.2.2.2 wm_353 wm_358 wm_359 wm_116 wm_360 (by decide +kernel) (yRm_le (by decide) (by decide))) (Nat.lt_of_lt_of_le (show 0 < 1 by decide) (by decide)) (xc_X11 (by decide) (by decide)) rfl rfl rfl (Nat.le_of_ble_eq_true rfl) dX11_hand_21) (fun u8 hk => ?_)
      clear hv
      have hv := hk
      clear hk
      refine y_aload_n E dX11_hand_24 0 rfl ?_
      refine y_aload_n E dX11_hand_25 0 rfl ?_
      refine y_iload_n E dX11_hand_26 2 rfl ?_
      refine y_callr E (y_runV E (rest := [.ref (w.1 0)]) (kX11_lift l w E.2.2.1 u8 a2 _ hv) (y_cwV 1 E.1.2.2.2.2 wm_339 wm_348 wm_349 wm_116 wm_350 (by decide +kernel) (yRm_le (by decide) (by decide))) (Nat.lt_of_lt_of_le (show 0 < 1 by decide) (by decide)) (xc_X11 (by decide) (by decide)) rfl rfl rfl (Nat.le_of_ble_eq_true rfl) dX11_hand_27) (fun v9 u10 hk => ?_)
      clear hv
      have hv := hk
      clear hk
      obtain ⟨rfl, hv⟩ := hv
      refine y_callv E (y_runV E (rest := []) (kX11_follow l w E.2.2.1 u10 49 _ hv) (y_cwV 1 E.1.2.2.2.2 wm_340 wm_345 wm_346 wm_116 wm_347 (by decide +kernel) (yRm_le (by decide) (by decide))) (Nat.lt_of_lt_of_le (show 0 < 1 by decide) (by decide)) (xc_X11 (by decide) (by decide)) rfl rfl rfl (Nat.le_of_ble_eq_true rfl) dX11_hand_30) (fun u12 hk => ?_)
      clear hv
      have hv := hk
      clear hk
      refine y_aload_n E dX11_hand_33 0 rfl ?_
      refine y_iload_n E dX11_hand_34 1 rfl ?_
      refine y_iload_n E dX11_hand_35 2 rfl ?_
      refine y_calli E (y_runV E (rest := []) (kX11_soonest l w E.2.2.1 u12 a1 a2 _ hv) (y_cwV 2 E.1.2.2.2.2 wm_354 wm_355 wm_356 wm_116 wm_357 (by decide +kernel) (yRm_le (by decide) (by decide))) (Nat.lt_of_lt_of_le (show 0 < 1 by decide) (by decide)) (xc_X11 (by decide) (by decide)) rfl rfl rfl (Nat.le_of_ble_eq_true rfl) dX11_hand_36) (fun v13 u14 hk => ?_)
      clear hv
      have hv := hk
      clear hk
      exact y_iret E dX11_hand_39 hv
    · replace hv := ite_t hv c6
      refine y_bipush (v := (-5)) E dX11_hand_16 (by decide) ?_
      exact y_iret E dX11_hand_18 hv
theorem dX11_first_0 : decode cX11_first 0 = .ok (.aload_n 0, 1) := by decide +kernel
theorem dX11_first_1 : decode cX11_first 1 = .ok (.iload_n 1, 1) := by decide +kernel
theorem dX11_first_2 : decode cX11_first 2 = .ok (.invokevirtual 158, 3) := by decide +kernel
theorem dX11_first_5 : decode cX11_first 5 = .ok (.ifCond .ne 6, 3) := by decide +kernel
theorem dX11_first_8 : decode cX11_first 8 = .ok (.bipush (-5), 2) := by decide +kernel
theorem dX11_first_10 : decode cX11_first 10 = .ok (.ireturn, 1) := by decide +kernel
theorem dX11_first_11 : decode cX11_first 11 = .ok (.iload_n 2, 1) := by decide +kernel
theorem dX11_first_12 : decode cX11_first 12 = .ok (.invokestatic 181, 3) := by decide +kernel
theorem dX11_first_15 : decode cX11_first 15 = .ok (.ifCond .ne 6, 3) := by decide +kernel
theorem dX11_first_18 : decode cX11_first 18 = .ok (.bipush (-7), 2) := by decide +kernel
theorem dX11_first_20 : decode cX11_first 20 = .ok (.ireturn, 1) := by decide +kernel
theorem dX11_first_21 : decode cX11_first 21 = .ok (.aload_n 0, 1) := by decide +kernel
theorem dX11_first_22 : decode cX11_first 22 = .ok (.iload_n 1, 1) := by decide +kernel
theorem dX11_first_23 : decode cX11_first 23 = .ok (.invokevirtual 214, 3) := by decide +kernel
theorem dX11_first_26 : decode cX11_first 26 = .ok (.iconst (-1), 1) := by decide +kernel
theorem dX11_first_27 : decode cX11_first 27 = .ok (.istore_n 3, 1) := by decide +kernel
theorem dX11_first_28 : decode cX11_first 28 = .ok (.iconst 0, 1) := by decide +kernel
theorem dX11_first_29 : decode cX11_first 29 = .ok (.istore 4, 2) := by decide +kernel
theorem dX11_first_31 : decode cX11_first 31 = .ok (.iconst 0, 1) := by decide +kernel
theorem dX11_first_32 : decode cX11_first 32 = .ok (.istore 5, 2) := by decide +kernel
theorem dX11_first_34 : decode cX11_first 34 = .ok (.iload 5, 2) := by decide +kernel
theorem dX11_first_36 : decode cX11_first 36 = .ok (.aload_n 0, 1) := by decide +kernel
theorem dX11_first_37 : decode cX11_first 37 = .ok (.getfield 12, 3) := by decide +kernel
theorem dX11_first_40 : decode cX11_first 40 = .ok (.getfield 122, 3) := by decide +kernel
theorem dX11_first_43 : decode cX11_first 43 = .ok (.if_icmp .ge 80, 3) := by decide +kernel
theorem dX11_first_46 : decode cX11_first 46 = .ok (.aload_n 0, 1) := by decide +kernel
theorem dX11_first_47 : decode cX11_first 47 = .ok (.aload_n 0, 1) := by decide +kernel
theorem dX11_first_48 : decode cX11_first 48 = .ok (.iload 5, 2) := by decide +kernel
theorem dX11_first_50 : decode cX11_first 50 = .ok (.invokevirtual 200, 3) := by decide +kernel
theorem dX11_first_53 : decode cX11_first 53 = .ok (.invokevirtual 204, 3) := by decide +kernel
theorem dX11_first_56 : decode cX11_first 56 = .ok (.aload_n 0, 1) := by decide +kernel
theorem dX11_first_57 : decode cX11_first 57 = .ok (.iload_n 1, 1) := by decide +kernel
theorem dX11_first_58 : decode cX11_first 58 = .ok (.iload 5, 2) := by decide +kernel
theorem dX11_first_60 : decode cX11_first 60 = .ok (.invokevirtual 217, 3) := by decide +kernel
theorem dX11_first_63 : decode cX11_first 63 = .ok (.istore 6, 2) := by decide +kernel
theorem dX11_first_65 : decode cX11_first 65 = .ok (.iload_n 2, 1) := by decide +kernel
theorem dX11_first_66 : decode cX11_first 66 = .ok (.ifCond .ne 9, 3) := by decide +kernel
theorem dX11_first_69 : decode cX11_first 69 = .ok (.iload 6, 2) := by decide +kernel
theorem dX11_first_71 : decode cX11_first 71 = .ok (.ineg, 1) := by decide +kernel
theorem dX11_first_72 : decode cX11_first 72 = .ok (.goto 20, 3) := by decide +kernel
theorem dX11_first_75 : decode cX11_first 75 = .ok (.aload_n 0, 1) := by decide +kernel
theorem dX11_first_76 : decode cX11_first 76 = .ok (.iconst 1, 1) := by decide +kernel
theorem dX11_first_77 : decode cX11_first 77 = .ok (.aload_n 0, 1) := by decide +kernel
theorem dX11_first_78 : decode cX11_first 78 = .ok (.getfield 12, 3) := by decide +kernel
theorem dX11_first_81 : decode cX11_first 81 = .ok (.getfield 169, 3) := by decide +kernel
theorem dX11_first_84 : decode cX11_first 84 = .ok (.iload 5, 2) := by decide +kernel
theorem dX11_first_86 : decode cX11_first 86 = .ok (.iaload, 1) := by decide +kernel
theorem dX11_first_87 : decode cX11_first 87 = .ok (.iload 5, 2) := by decide +kernel
theorem dX11_first_89 : decode cX11_first 89 = .ok (.invokevirtual 220, 3) := by decide +kernel
theorem dX11_first_92 : decode cX11_first 92 = .ok (.istore 7, 2) := by decide +kernel
theorem dX11_first_94 : decode cX11_first 94 = .ok (.iload 6, 2) := by decide +kernel
theorem dX11_first_96 : decode cX11_first 96 = .ok (.ifCond .lt 21, 3) := by decide +kernel
theorem dX11_first_99 : decode cX11_first 99 = .ok (.iload_n 3, 1) := by decide +kernel
theorem dX11_first_100 : decode cX11_first 100 = .ok (.ifCond .lt 10, 3) := by decide +kernel
theorem dX11_first_103 : decode cX11_first 103 = .ok (.iload 7, 2) := by decide +kernel
theorem dX11_first_105 : decode cX11_first 105 = .ok (.iload 4, 2) := by decide +kernel
theorem dX11_first_107 : decode cX11_first 107 = .ok (.if_icmp .le 10, 3) := by decide +kernel
theorem dX11_first_110 : decode cX11_first 110 = .ok (.iload 5, 2) := by decide +kernel
theorem dX11_first_112 : decode cX11_first 112 = .ok (.istore_n 3, 1) := by decide +kernel
theorem dX11_first_113 : decode cX11_first 113 = .ok (.iload 7, 2) := by decide +kernel
theorem dX11_first_115 : decode cX11_first 115 = .ok (.istore 4, 2) := by decide +kernel
theorem dX11_first_117 : decode cX11_first 117 = .ok (.iinc 5 1, 3) := by decide +kernel
theorem dX11_first_120 : decode cX11_first 120 = .ok (.goto (-86), 3) := by decide +kernel
theorem dX11_first_123 : decode cX11_first 123 = .ok (.iload_n 3, 1) := by decide +kernel
theorem dX11_first_124 : decode cX11_first 124 = .ok (.ireturn, 1) := by decide +kernel
set_option maxRecDepth 100000 in
set_option maxHeartbeats 4000000 in
theorem kX11_first (l : Launch) (w : wT) (hw : yOk w 55) (σ : Hp) (a1 : Int32) (a2 : Int32) (K : Int32 → Hp → Prop) (hv : VX11_first K σ a1 a2) : yMet l w xcf 55 yX11_first cX11_first 8 (some .int) 6 [.ref (w.1 0), .int a1, .int a2] σ (yQi w xcf 55 K) := by
  unfold VX11_first at hv
  refine y_start (lv0 := [(0, .ref (w.1 0)), (1, .int a1), (2, .int a2)]) (by decide +kernel) (own := RX11) rfl hw (Nat.le_of_ble_eq_true rfl) rfl (fun p e s m below meth c A E => ?_)
  have hL34 : ∀ (n34 : Nat) (σ : Hp) (l1 : Int32) (l2 : Int32) (l3 : Int32) (l4 : Int32) (l5 : Int32), VX11_first_L34 K n34 σ l1 l2 l3 l4 l5 → YY p l e (yRm 6) s m [.ref (w.1 0), .int a1, .int a2].toArray below meth c w xcf 55 A (MQ below (yQi w xcf 55 K A) [.ref (w.1 0), .int a1, .int a2].toArray s 0 0 A) 8 σ 34 [(0, .ref (w.1 0)), (1, .int l1), (2, .int l2), (3, .int l3), (4, .int l4), (5, .int l5)] [] := by
    intro n34
    induction n34 with
    | zero => exact fun _ _ _ _ _ _ hv => (by unfold VX11_first_L34 at hv; exact hv.elim)
    | succ n34 ih34 =>
      have hb110 : ∀ (σ : Hp) (l1 : Int32) (l2 : Int32) (l5 : Int32) (l7 : Int32), VX11_first_b110 K (VX11_first_L34 K n34) σ l1 l2 l5 l7 → YY p l e (yRm 6) s m [.ref (w.1 0), .int a1, .int a2].toArray below meth c w xcf 55 A (MQ below (yQi w xcf 55 K A) [.ref (w.1 0), .int a1, .int a2].toArray s 0 0 A) 8 σ 110 [(0, .ref (w.1 0)), (1, .int l1), (2, .int l2), (5, .int l5), (7, .int l7)] [] := by
        intro σ l1 l2 l5 l7 hv
        unfold VX11_first_b110 at hv
        refine y_iload E dX11_first_110 3 rfl ?_
        refine y_istore_n (lv' := [(3, .int l5), (0, .ref (w.1 0)), (1, .int l1), (2, .int l2), (5, .int l5), (7, .int l7)]) E dX11_first_112 (by decide) rfl ?_
        refine y_iload E dX11_first_113 5 rfl ?_
        refine y_istore (lv' := [(4, .int l7), (3, .int l5), (0, .ref (w.1 0)), (1, .int l1), (2, .int l2), (5, .int l5), (7, .int l7)]) E dX11_first_115 (by decide) rfl ?_
        obtain ⟨x24, hx24⟩ : ∃ z : Int32, z = l5 + 1 := ⟨_, rfl⟩
        replace hv := hv x24 hx24
        refine y_iinc (v := x24) (lv' := [(5, .int x24), (4, .int l7), (3, .int l5), (0, .ref (w.1 0)), (1, .int l1), (2, .int l2), (7, .int l7)]) E dX11_first_117 5 rfl (by rw [hx24]; rfl) (by decide) rfl ?_
        refine y_goto (tgt := 34) E dX11_first_120 (by decide) ?_
        refine y_lv (lv' := [(0, .ref (w.1 0)), (1, .int l1), (2, .int l2), (3, .int l5), (4, .int l7), (5, .int x24)]) [3, 4, 5, 2, 1, 0] rfl ?_
        exact ih34 σ l1 l2 l5 l7 x24 hv
      have hb92 : ∀ (σ : Hp) (l1 : Int32) (l2 : Int32) (l3 : Int32) (l4 : Int32) (l5 : Int32) (l6 : Int32) (s0 : Int32), VX11_first_b92 K (VX11_first_L34 K n34) σ l1 l2 l3 l4 l5 l6 s0 → YY p l e (yRm 6) s m [.ref (w.1 0), .int a1, .int a2].toArray below meth c w xcf 55 A (MQ below (yQi w xcf 55 K A) [.ref (w.1 0), .int a1, .int a2].toArray s 0 0 A) 8 σ 92 [(0, .ref (w.1 0)), (1, .int l1), (2, .int l2), (3, .int l3), (4, .int l4), (5, .int l5), (6, .int l6)] [.int s0] := by
        intro σ l1 l2 l3 l4 l5 l6 s0 hv
        unfold VX11_first_b92 at hv
        refine y_istore (lv' := [(7, .int s0), (0, .ref (w.1 0)), (1, .int l1), (2, .int l2), (3, .int l3), (4, .int l4), (5, .int l5), (6, .int l6)]) E dX11_first_92 (by decide) rfl ?_
        refine y_iload E dX11_first_94 7 rfl ?_
        refine y_if_lt (tgt := 117) E dX11_first_96 (by decide) (fun c19 => ?_) (fun c19 => ?_)
        · replace hv := ite_t hv c19
          obtain ⟨x20, hx20⟩ : ∃ z : Int32, z = l5 + 1 := ⟨_, rfl⟩
          replace hv := hv x20 hx20
          refine y_iinc (v := x20) (lv' := [(5, .int x20), (7, .int s0), (0, .ref (w.1 0)), (1, .int l1), (2, .int l2), (3, .int l3), (4, .int l4), (6, .int l6)]) E dX11_first_117 6 rfl (by rw [hx20]; rfl) (by decide) rfl ?_
          refine y_goto (tgt := 34) E dX11_first_120 (by decide) ?_
          refine y_lv (lv' := [(0, .ref (w.1 0)), (1, .int l1), (2, .int l2), (3, .int l3), (4, .int l4), (5, .int x20)]) [2, 3, 4, 5, 6, 0] rfl ?_
          exact ih34 σ l1 l2 l3 l4 x20 hv
        · replace hv := ite_f hv c19
          refine y_iload_n E dX11_first_99 4 rfl ?_
          refine y_if_lt (tgt := 110) E dX11_first_100 (by decide) (fun c21 => ?_) (fun c21 => ?_)
          · replace hv := ite_t hv c21
            refine y_lv (lv' := [(0, .ref (w.1 0)), (1, .int l1), (2, .int l2), (5, .int l5), (7, .int s0)]) [1, 2, 3, 6, 0] rfl ?_
            exact hb110 σ l1 l2 l5 s0 hv
          · replace hv := ite_f hv c21
            refine y_iload E dX11_first_103 0 rfl ?_
            refine y_iload E dX11_first_105 5 rfl ?_
            refine y_icmp_le (tgt := 117) E dX11_first_107 (by decide) (fun c22 => ?_) (fun c22 => ?_)
            · replace hv := ite_t hv c22
              obtain ⟨x23, hx23⟩ : ∃ z : Int32, z = l5 + 1 := ⟨_, rfl⟩
              replace hv := hv x23 hx23
              refine y_iinc (v := x23) (lv' := [(5, .int x23), (7, .int s0), (0, .ref (w.1 0)), (1, .int l1), (2, .int l2), (3, .int l3), (4, .int l4), (6, .int l6)]) E dX11_first_117 6 rfl (by rw [hx23]; rfl) (by decide) rfl ?_
              refine y_goto (tgt := 34) E dX11_first_120 (by decide) ?_
              refine y_lv (lv' := [(0, .ref (w.1 0)), (1, .int l1), (2, .int l2), (3, .int l3), (4, .int l4), (5, .int x23)]) [2, 3, 4, 5, 6, 0] rfl ?_
              exact ih34 σ l1 l2 l3 l4 x23 hv
            · replace hv := ite_f hv c22
              refine y_lv (lv' := [(0, .ref (w.1 0)), (1, .int l1), (2, .int l2), (5, .int l5), (7, .int s0)]) [1, 2, 3, 6, 0] rfl ?_
              exact hb110 σ l1 l2 l5 s0 hv
      intro σ l1 l2 l3 l4 l5 hv
      unfold VX11_first_L34 at hv
      refine y_iload E dX11_first_34 5 rfl ?_
      refine y_aload_n E dX11_first_36 0 rfl ?_
      refine gf_X11_0 E (by decide) (by decide) wm_272 dX11_first_37 ?_
      refine gf_X3_5 E (by decide) (by decide) wm_286 dX11_first_40 ?_
      refine y_icmp_ge (tgt := 123) E dX11_first_43 (by decide) (fun c9 => ?_) (fun c9 => ?_)
      · replace hv := ite_t hv c9
        refine y_iload_n E dX11_first_123 3 rfl ?_
        exact y_iret E dX11_first_124 hv
      · replace hv := ite_f hv c9
        refine y_aload_n E dX11_first_46 0 rfl ?_
        refine y_aload_n E dX11_first_47 0 rfl ?_
        refine y_iload E dX11_first_48 5 rfl ?_
        refine y_callr E (y_runV E (rest := [.ref (w.1 0)]) (kX11_lift l w E.2.2.1 σ l5 _ hv) (y_cwV 1 E.1.2.2.2.2 wm_339 wm_348 wm_349 wm_116 wm_350 (by decide +kernel) (yRm_le (by decide) (by decide))) (Nat.lt_of_lt_of_le (show 0 < 1 by decide) (by decide)) (xc_X11 (by decide) (by decide)) rfl rfl rfl (Nat.le_of_ble_eq_true rfl) dX11_first_50) (fun v10 u11 hk => ?_)
        clear hv
        have hv := hk
        clear hk
        obtain ⟨rfl, hv⟩ := hv
        refine y_callv E (y_runV E (rest := []) (kX11_follow l w E.2.2.1 u11 49 _ hv) (y_cwV 1 E.1.2.2.2.2 wm_340 wm_345 wm_346 wm_116 wm_347 (by decide +kernel) (yRm_le (by decide) (by decide))) (Nat.lt_of_lt_of_le (show 0 < 1 by decide) (by decide)) (xc_X11 (by decide) (by decide)) rfl rfl rfl (Nat.le_of_ble_eq_true rfl) dX11_first_53) (fun u13 hk => ?_)
        clear hv
        have hv := hk
        clear hk
        refine y_aload_n E dX11_first_56 0 rfl ?_
        refine y_iload_n E dX11_first_57 1 rfl ?_
        refine y_iload E dX11_first_58 5 rfl ?_
        refine y_calli E (y_runV E (rest := []) (kX11_soonest l w E.2.2.1 u13 l1 l5 _ hv) (y_cwV 2 E.1.2.2.2.2 wm_354 wm_355 wm_356 wm_116 wm_357 (by decide +kernel) (yRm_le (by decide) (by decide))) (Nat.lt_of_lt_of_le (show 0 < 1 by decide) (by decide)) (xc_X11 (by decide) (by decide)) rfl rfl rfl (Nat.le_of_ble_eq_true rfl) dX11_first_60) (fun v14 u15 hk => ?_)
        clear hv
        have hv := hk
        clear hk
        refine y_istore (lv' := [(6, .int v14), (0, .ref (w.1 0)), (1, .int l1), (2, .int l2), (3, .int l3), (4, .int l4), (5, .int l5)]) E dX11_first_63 (by decide) rfl ?_
        refine y_iload_n E dX11_first_65 3 rfl ?_
        refine y_if_ne (tgt := 75) E dX11_first_66 (by decide) (fun c16 => ?_) (fun c16 => ?_)
        · replace hv := ite_f hv c16
          refine y_aload_n E dX11_first_75 1 rfl ?_
          refine y_iconst (v := 1) E dX11_first_76 (by decide) ?_
          refine y_aload_n E dX11_first_77 1 rfl ?_
          refine gf_X11_0 E (by decide) (by decide) wm_272 dX11_first_78 ?_
          refine gf_X3_8 (q := 5) E (by decide) (by decide) rfl wm_315 dX11_first_81 ?_
          refine y_iload E dX11_first_84 6 rfl ?_
          obtain ⟨hi, hv⟩ := hv
          refine y_iald E (Nat.lt_of_lt_of_le (show 5 < 11 by decide) (by decide)) (xc_harr (by decide) (by decide)) hi dX11_first_86 ?_
          refine y_iload E dX11_first_87 6 rfl ?_
          refine y_calli E (y_runV E (rest := []) (kX11_says l w E.2.2.1 u15 1 (u15 5 l5.toNatClampNeg) l5 _ hv) (y_cwV 3 E.1.2.2.2.2 wm_361 wm_362 wm_363 wm_116 wm_364 (by decide +kernel) (yRm_le (by decide) (by decide))) (Nat.lt_of_lt_of_le (show 0 < 1 by decide) (by decide)) (xc_X11 (by decide) (by decide)) rfl rfl rfl (Nat.le_of_ble_eq_true rfl) dX11_first_89) (fun v17 u18 hk => ?_)
          clear hv
          have hv := hk
          clear hk
          refine y_lv (lv' := [(0, .ref (w.1 0)), (1, .int l1), (2, .int l2), (3, .int l3), (4, .int l4), (5, .int l5), (6, .int v14)]) [1, 2, 3, 4, 5, 6, 0] rfl ?_
          exact hb92 u18 l1 l2 l3 l4 l5 v14 v17 hv
        · replace hv := ite_t hv c16
          refine y_iload E dX11_first_69 0 rfl ?_
          refine y_ineg E dX11_first_71 ?_
          refine y_goto (tgt := 92) E dX11_first_72 (by decide) ?_
          refine y_lv (lv' := [(0, .ref (w.1 0)), (1, .int l1), (2, .int l2), (3, .int l3), (4, .int l4), (5, .int l5), (6, .int v14)]) [1, 2, 3, 4, 5, 6, 0] rfl ?_
          exact hb92 u15 l1 l2 l3 l4 l5 v14 (-v14) hv
  refine y_aload_n E dX11_first_0 0 rfl ?_
  refine y_iload_n E dX11_first_1 1 rfl ?_
  refine y_calli E (y_runV E (rest := []) (kX11_isOpen l w E.2.2.1 σ a1 _ hv) (y_cwV 1 E.1.2.2.2.2 wm_311 wm_319 wm_320 wm_116 wm_321 (by decide +kernel) (yRm_le (by decide) (by decide))) (Nat.lt_of_lt_of_le (show 0 < 1 by decide) (by decide)) (xc_X11 (by decide) (by decide)) rfl rfl rfl (Nat.le_of_ble_eq_true rfl) dX11_first_2) (fun v1 u2 hk => ?_)
  clear hv
  have hv := hk
  clear hk
  refine y_if_ne (tgt := 11) E dX11_first_5 (by decide) (fun c3 => ?_) (fun c3 => ?_)
  · replace hv := ite_f hv c3
    refine y_iload_n E dX11_first_11 2 rfl ?_
    refine y_calli E (y_runS E (rest := []) (kX11_isChoice l w E.2.2.1 u2 a2 _ hv) (y_cwS 1 E.1.2.2.2.2 wm_327 wm_334 wm_116 wm_335 (by decide +kernel) (yRm_le (by decide) (by decide))) rfl rfl (Nat.le_of_ble_eq_true rfl) dX11_first_12) (fun v4 u5 hk => ?_)
    clear hv
    have hv := hk
    clear hk
    refine y_if_ne (tgt := 21) E dX11_first_15 (by decide) (fun c6 => ?_) (fun c6 => ?_)
    · replace hv := ite_f hv c6
      refine y_aload_n E dX11_first_21 0 rfl ?_
      refine y_iload_n E dX11_first_22 1 rfl ?_
      refine y_callv E (y_runV E (rest := []) (kX11_measure l w E.2.2.1 u5 a1 _ hv) (y_cwV 1 E.1.2.2.2.2 wm_353 wm_358 wm_359 wm_116 wm_360 (by decide +kernel) (yRm_le (by decide) (by decide))) (Nat.lt_of_lt_of_le (show 0 < 1 by decide) (by decide)) (xc_X11 (by decide) (by decide)) rfl rfl rfl (Nat.le_of_ble_eq_true rfl) dX11_first_23) (fun u8 hk => ?_)
      clear hv
      have hv := hk
      clear hk
      refine y_iconst (v := (-1)) E dX11_first_26 (by decide) ?_
      refine y_istore_n (lv' := [(3, .int (-1)), (0, .ref (w.1 0)), (1, .int a1), (2, .int a2)]) E dX11_first_27 (by decide) rfl ?_
      refine y_iconst (v := 0) E dX11_first_28 (by decide) ?_
      refine y_istore (lv' := [(4, .int 0), (3, .int (-1)), (0, .ref (w.1 0)), (1, .int a1), (2, .int a2)]) E dX11_first_29 (by decide) rfl ?_
      refine y_iconst (v := 0) E dX11_first_31 (by decide) ?_
      refine y_istore (lv' := [(5, .int 0), (4, .int 0), (3, .int (-1)), (0, .ref (w.1 0)), (1, .int a1), (2, .int a2)]) E dX11_first_32 (by decide) rfl ?_
      refine y_lv (lv' := [(0, .ref (w.1 0)), (1, .int a1), (2, .int a2), (3, .int (-1)), (4, .int 0), (5, .int 0)]) [3, 4, 5, 2, 1, 0] rfl ?_
      obtain ⟨n0, hv⟩ := hv
      exact hL34 n0 u8 a1 a2 (-1) 0 0 hv
    · replace hv := ite_t hv c6
      refine y_bipush (v := (-7)) E dX11_first_18 (by decide) ?_
      exact y_iret E dX11_first_20 hv
  · replace hv := ite_t hv c3
    refine y_bipush (v := (-5)) E dX11_first_8 (by decide) ?_
    exact y_iret E dX11_first_10 hv
theorem dX11_wait_0 : decode cX11_wait 0 = .ok (.aload_n 0, 1) := by decide +kernel
theorem dX11_wait_1 : decode cX11_wait 1 = .ok (.iload_n 1, 1) := by decide +kernel
theorem dX11_wait_2 : decode cX11_wait 2 = .ok (.invokevirtual 175, 3) := by decide +kernel
theorem dX11_wait_5 : decode cX11_wait 5 = .ok (.ifCond .ne 6, 3) := by decide +kernel
theorem dX11_wait_8 : decode cX11_wait 8 = .ok (.bipush (-5), 2) := by decide +kernel
theorem dX11_wait_10 : decode cX11_wait 10 = .ok (.ireturn, 1) := by decide +kernel
theorem dX11_wait_11 : decode cX11_wait 11 = .ok (.iload_n 2, 1) := by decide +kernel
theorem dX11_wait_12 : decode cX11_wait 12 = .ok (.invokestatic 181, 3) := by decide +kernel
theorem dX11_wait_15 : decode cX11_wait 15 = .ok (.ifCond .ne 6, 3) := by decide +kernel
theorem dX11_wait_18 : decode cX11_wait 18 = .ok (.bipush (-7), 2) := by decide +kernel
theorem dX11_wait_20 : decode cX11_wait 20 = .ok (.ireturn, 1) := by decide +kernel
theorem dX11_wait_21 : decode cX11_wait 21 = .ok (.aload_n 0, 1) := by decide +kernel
theorem dX11_wait_22 : decode cX11_wait 22 = .ok (.aload_n 0, 1) := by decide +kernel
theorem dX11_wait_23 : decode cX11_wait 23 = .ok (.iload_n 1, 1) := by decide +kernel
theorem dX11_wait_24 : decode cX11_wait 24 = .ok (.invokevirtual 200, 3) := by decide +kernel
theorem dX11_wait_27 : decode cX11_wait 27 = .ok (.invokevirtual 204, 3) := by decide +kernel
theorem dX11_wait_30 : decode cX11_wait 30 = .ok (.iconst (-1), 1) := by decide +kernel
theorem dX11_wait_31 : decode cX11_wait 31 = .ok (.istore_n 3, 1) := by decide +kernel
theorem dX11_wait_32 : decode cX11_wait 32 = .ok (.iconst (-1), 1) := by decide +kernel
theorem dX11_wait_33 : decode cX11_wait 33 = .ok (.istore 4, 2) := by decide +kernel
theorem dX11_wait_35 : decode cX11_wait 35 = .ok (.iconst 0, 1) := by decide +kernel
theorem dX11_wait_36 : decode cX11_wait 36 = .ok (.istore 5, 2) := by decide +kernel
theorem dX11_wait_38 : decode cX11_wait 38 = .ok (.iload 5, 2) := by decide +kernel
theorem dX11_wait_40 : decode cX11_wait 40 = .ok (.bipush 30, 2) := by decide +kernel
theorem dX11_wait_42 : decode cX11_wait 42 = .ok (.if_icmp .ge 74, 3) := by decide +kernel
theorem dX11_wait_45 : decode cX11_wait 45 = .ok (.aload_n 0, 1) := by decide +kernel
theorem dX11_wait_46 : decode cX11_wait 46 = .ok (.iload 5, 2) := by decide +kernel
theorem dX11_wait_48 : decode cX11_wait 48 = .ok (.invokevirtual 158, 3) := by decide +kernel
theorem dX11_wait_51 : decode cX11_wait 51 = .ok (.ifCond .eq 59, 3) := by decide +kernel
theorem dX11_wait_54 : decode cX11_wait 54 = .ok (.iload 5, 2) := by decide +kernel
theorem dX11_wait_56 : decode cX11_wait 56 = .ok (.aload_n 0, 1) := by decide +kernel
theorem dX11_wait_57 : decode cX11_wait 57 = .ok (.getfield 12, 3) := by decide +kernel
theorem dX11_wait_60 : decode cX11_wait 60 = .ok (.getfield 169, 3) := by decide +kernel
theorem dX11_wait_63 : decode cX11_wait 63 = .ok (.iload_n 1, 1) := by decide +kernel
theorem dX11_wait_64 : decode cX11_wait 64 = .ok (.iaload, 1) := by decide +kernel
theorem dX11_wait_65 : decode cX11_wait 65 = .ok (.if_icmp .ne 6, 3) := by decide +kernel
theorem dX11_wait_68 : decode cX11_wait 68 = .ok (.goto 42, 3) := by decide +kernel
theorem dX11_wait_71 : decode cX11_wait 71 = .ok (.aload_n 0, 1) := by decide +kernel
theorem dX11_wait_72 : decode cX11_wait 72 = .ok (.iload 5, 2) := by decide +kernel
theorem dX11_wait_74 : decode cX11_wait 74 = .ok (.invokevirtual 214, 3) := by decide +kernel
theorem dX11_wait_77 : decode cX11_wait 77 = .ok (.aload_n 0, 1) := by decide +kernel
theorem dX11_wait_78 : decode cX11_wait 78 = .ok (.iload 5, 2) := by decide +kernel
theorem dX11_wait_80 : decode cX11_wait 80 = .ok (.iload_n 1, 1) := by decide +kernel
theorem dX11_wait_81 : decode cX11_wait 81 = .ok (.invokevirtual 217, 3) := by decide +kernel
theorem dX11_wait_84 : decode cX11_wait 84 = .ok (.istore 6, 2) := by decide +kernel
theorem dX11_wait_86 : decode cX11_wait 86 = .ok (.iload 6, 2) := by decide +kernel
theorem dX11_wait_88 : decode cX11_wait 88 = .ok (.ifCond .lt 22, 3) := by decide +kernel
theorem dX11_wait_91 : decode cX11_wait 91 = .ok (.iload 4, 2) := by decide +kernel
theorem dX11_wait_93 : decode cX11_wait 93 = .ok (.ifCond .lt 10, 3) := by decide +kernel
theorem dX11_wait_96 : decode cX11_wait 96 = .ok (.iload 6, 2) := by decide +kernel
theorem dX11_wait_98 : decode cX11_wait 98 = .ok (.iload 4, 2) := by decide +kernel
theorem dX11_wait_100 : decode cX11_wait 100 = .ok (.if_icmp .ge 10, 3) := by decide +kernel
theorem dX11_wait_103 : decode cX11_wait 103 = .ok (.iload 5, 2) := by decide +kernel
theorem dX11_wait_105 : decode cX11_wait 105 = .ok (.istore_n 3, 1) := by decide +kernel
theorem dX11_wait_106 : decode cX11_wait 106 = .ok (.iload 6, 2) := by decide +kernel
theorem dX11_wait_108 : decode cX11_wait 108 = .ok (.istore 4, 2) := by decide +kernel
theorem dX11_wait_110 : decode cX11_wait 110 = .ok (.iinc 5 1, 3) := by decide +kernel
theorem dX11_wait_113 : decode cX11_wait 113 = .ok (.goto (-75), 3) := by decide +kernel
theorem dX11_wait_116 : decode cX11_wait 116 = .ok (.iload_n 2, 1) := by decide +kernel
theorem dX11_wait_117 : decode cX11_wait 117 = .ok (.ifCond .ne 7, 3) := by decide +kernel
theorem dX11_wait_120 : decode cX11_wait 120 = .ok (.iload_n 3, 1) := by decide +kernel
theorem dX11_wait_121 : decode cX11_wait 121 = .ok (.goto 5, 3) := by decide +kernel
theorem dX11_wait_124 : decode cX11_wait 124 = .ok (.iload 4, 2) := by decide +kernel
theorem dX11_wait_126 : decode cX11_wait 126 = .ok (.ireturn, 1) := by decide +kernel
set_option maxRecDepth 100000 in
set_option maxHeartbeats 4000000 in
theorem kX11_wait (l : Launch) (w : wT) (hw : yOk w 55) (σ : Hp) (a1 : Int32) (a2 : Int32) (K : Int32 → Hp → Prop) (hv : VX11_wait K σ a1 a2) : yMet l w xcf 55 yX11_wait cX11_wait 7 (some .int) 6 [.ref (w.1 0), .int a1, .int a2] σ (yQi w xcf 55 K) := by
  unfold VX11_wait at hv
  refine y_start (lv0 := [(0, .ref (w.1 0)), (1, .int a1), (2, .int a2)]) (by decide +kernel) (own := RX11) rfl hw (Nat.le_of_ble_eq_true rfl) rfl (fun p e s m below meth c A E => ?_)
  have hL38 : ∀ (n38 : Nat) (σ : Hp) (l1 : Int32) (l2 : Int32) (l3 : Int32) (l4 : Int32) (l5 : Int32), VX11_wait_L38 K n38 σ l1 l2 l3 l4 l5 → YY p l e (yRm 6) s m [.ref (w.1 0), .int a1, .int a2].toArray below meth c w xcf 55 A (MQ below (yQi w xcf 55 K A) [.ref (w.1 0), .int a1, .int a2].toArray s 0 0 A) 7 σ 38 [(0, .ref (w.1 0)), (1, .int l1), (2, .int l2), (3, .int l3), (4, .int l4), (5, .int l5)] [] := by
    intro n38
    induction n38 with
    | zero => exact fun _ _ _ _ _ _ hv => (by unfold VX11_wait_L38 at hv; exact hv.elim)
    | succ n38 ih38 =>
      have hb103 : ∀ (σ : Hp) (l1 : Int32) (l2 : Int32) (l5 : Int32) (l6 : Int32), VX11_wait_b103 K (VX11_wait_L38 K n38) σ l1 l2 l5 l6 → YY p l e (yRm 6) s m [.ref (w.1 0), .int a1, .int a2].toArray below meth c w xcf 55 A (MQ below (yQi w xcf 55 K A) [.ref (w.1 0), .int a1, .int a2].toArray s 0 0 A) 7 σ 103 [(0, .ref (w.1 0)), (1, .int l1), (2, .int l2), (5, .int l5), (6, .int l6)] [] := by
        intro σ l1 l2 l5 l6 hv
        unfold VX11_wait_b103 at hv
        refine y_iload E dX11_wait_103 3 rfl ?_
        refine y_istore_n (lv' := [(3, .int l5), (0, .ref (w.1 0)), (1, .int l1), (2, .int l2), (5, .int l5), (6, .int l6)]) E dX11_wait_105 (by decide) rfl ?_
        refine y_iload E dX11_wait_106 5 rfl ?_
        refine y_istore (lv' := [(4, .int l6), (3, .int l5), (0, .ref (w.1 0)), (1, .int l1), (2, .int l2), (5, .int l5), (6, .int l6)]) E dX11_wait_108 (by decide) rfl ?_
        obtain ⟨x28, hx28⟩ : ∃ z : Int32, z = l5 + 1 := ⟨_, rfl⟩
        replace hv := hv x28 hx28
        refine y_iinc (v := x28) (lv' := [(5, .int x28), (4, .int l6), (3, .int l5), (0, .ref (w.1 0)), (1, .int l1), (2, .int l2), (6, .int l6)]) E dX11_wait_110 5 rfl (by rw [hx28]; rfl) (by decide) rfl ?_
        refine y_goto (tgt := 38) E dX11_wait_113 (by decide) ?_
        refine y_lv (lv' := [(0, .ref (w.1 0)), (1, .int l1), (2, .int l2), (3, .int l5), (4, .int l6), (5, .int x28)]) [3, 4, 5, 2, 1, 0] rfl ?_
        exact ih38 σ l1 l2 l5 l6 x28 hv
      intro σ l1 l2 l3 l4 l5 hv
      unfold VX11_wait_L38 at hv
      refine y_iload E dX11_wait_38 5 rfl ?_
      refine y_bipush (v := 30) E dX11_wait_40 (by decide) ?_
      refine y_icmp_ge (tgt := 116) E dX11_wait_42 (by decide) (fun c11 => ?_) (fun c11 => ?_)
      · replace hv := ite_t hv c11
        refine y_iload_n E dX11_wait_116 2 rfl ?_
        refine y_if_ne (tgt := 124) E dX11_wait_117 (by decide) (fun c12 => ?_) (fun c12 => ?_)
        · replace hv := ite_f hv c12
          refine y_iload E dX11_wait_124 4 rfl ?_
          exact y_iret E dX11_wait_126 hv
        · replace hv := ite_t hv c12
          refine y_iload_n E dX11_wait_120 3 rfl ?_
          refine y_goto (tgt := 126) E dX11_wait_121 (by decide) ?_
          exact y_iret E dX11_wait_126 hv
      · replace hv := ite_f hv c11
        refine y_aload_n E dX11_wait_45 0 rfl ?_
        refine y_iload E dX11_wait_46 5 rfl ?_
        refine y_calli E (y_runV E (rest := []) (kX11_isOpen l w E.2.2.1 σ l5 _ hv) (y_cwV 1 E.1.2.2.2.2 wm_311 wm_319 wm_320 wm_116 wm_321 (by decide +kernel) (yRm_le (by decide) (by decide))) (Nat.lt_of_lt_of_le (show 0 < 1 by decide) (by decide)) (xc_X11 (by decide) (by decide)) rfl rfl rfl (Nat.le_of_ble_eq_true rfl) dX11_wait_48) (fun v13 u14 hk => ?_)
        clear hv
        have hv := hk
        clear hk
        refine y_if_eq (tgt := 110) E dX11_wait_51 (by decide) (fun c15 => ?_) (fun c15 => ?_)
        · replace hv := ite_t hv c15
          obtain ⟨x16, hx16⟩ : ∃ z : Int32, z = l5 + 1 := ⟨_, rfl⟩
          replace hv := hv x16 hx16
          refine y_iinc (v := x16) (lv' := [(5, .int x16), (0, .ref (w.1 0)), (1, .int l1), (2, .int l2), (3, .int l3), (4, .int l4)]) E dX11_wait_110 5 rfl (by rw [hx16]; rfl) (by decide) rfl ?_
          refine y_goto (tgt := 38) E dX11_wait_113 (by decide) ?_
          refine y_lv (lv' := [(0, .ref (w.1 0)), (1, .int l1), (2, .int l2), (3, .int l3), (4, .int l4), (5, .int x16)]) [1, 2, 3, 4, 5, 0] rfl ?_
          exact ih38 u14 l1 l2 l3 l4 x16 hv
        · replace hv := ite_f hv c15
          refine y_iload E dX11_wait_54 5 rfl ?_
          refine y_aload_n E dX11_wait_56 0 rfl ?_
          refine gf_X11_0 E (by decide) (by decide) wm_272 dX11_wait_57 ?_
          refine gf_X3_8 (q := 5) E (by decide) (by decide) rfl wm_315 dX11_wait_60 ?_
          refine y_iload_n E dX11_wait_63 1 rfl ?_
          obtain ⟨hi, hv⟩ := hv
          refine y_iald E (Nat.lt_of_lt_of_le (show 5 < 11 by decide) (by decide)) (xc_harr (by decide) (by decide)) hi dX11_wait_64 ?_
          refine y_icmp_ne (tgt := 71) E dX11_wait_65 (by decide) (fun c17 => ?_) (fun c17 => ?_)
          · replace hv := ite_f hv c17
            refine y_aload_n E dX11_wait_71 0 rfl ?_
            refine y_iload E dX11_wait_72 5 rfl ?_
            refine y_callv E (y_runV E (rest := []) (kX11_measure l w E.2.2.1 u14 l5 _ hv) (y_cwV 1 E.1.2.2.2.2 wm_353 wm_358 wm_359 wm_116 wm_360 (by decide +kernel) (yRm_le (by decide) (by decide))) (Nat.lt_of_lt_of_le (show 0 < 1 by decide) (by decide)) (xc_X11 (by decide) (by decide)) rfl rfl rfl (Nat.le_of_ble_eq_true rfl) dX11_wait_74) (fun u19 hk => ?_)
            clear hv
            have hv := hk
            clear hk
            refine y_aload_n E dX11_wait_77 0 rfl ?_
            refine y_iload E dX11_wait_78 5 rfl ?_
            refine y_iload_n E dX11_wait_80 1 rfl ?_
            refine y_calli E (y_runV E (rest := []) (kX11_soonest l w E.2.2.1 u19 l5 l1 _ hv) (y_cwV 2 E.1.2.2.2.2 wm_354 wm_355 wm_356 wm_116 wm_357 (by decide +kernel) (yRm_le (by decide) (by decide))) (Nat.lt_of_lt_of_le (show 0 < 1 by decide) (by decide)) (xc_X11 (by decide) (by decide)) rfl rfl rfl (Nat.le_of_ble_eq_true rfl) dX11_wait_81) (fun v20 u21 hk => ?_)
            clear hv
            have hv := hk
            clear hk
            refine y_istore (lv' := [(6, .int v20), (0, .ref (w.1 0)), (1, .int l1), (2, .int l2), (3, .int l3), (4, .int l4), (5, .int l5)]) E dX11_wait_84 (by decide) rfl ?_
            refine y_iload E dX11_wait_86 0 rfl ?_
            refine y_if_lt (tgt := 110) E dX11_wait_88 (by decide) (fun c22 => ?_) (fun c22 => ?_)
            · replace hv := ite_t hv c22
              obtain ⟨x23, hx23⟩ : ∃ z : Int32, z = l5 + 1 := ⟨_, rfl⟩
              replace hv := hv x23 hx23
              refine y_iinc (v := x23) (lv' := [(5, .int x23), (6, .int v20), (0, .ref (w.1 0)), (1, .int l1), (2, .int l2), (3, .int l3), (4, .int l4)]) E dX11_wait_110 6 rfl (by rw [hx23]; rfl) (by decide) rfl ?_
              refine y_goto (tgt := 38) E dX11_wait_113 (by decide) ?_
              refine y_lv (lv' := [(0, .ref (w.1 0)), (1, .int l1), (2, .int l2), (3, .int l3), (4, .int l4), (5, .int x23)]) [2, 3, 4, 5, 6, 0] rfl ?_
              exact ih38 u21 l1 l2 l3 l4 x23 hv
            · replace hv := ite_f hv c22
              refine y_iload E dX11_wait_91 5 rfl ?_
              refine y_if_lt (tgt := 103) E dX11_wait_93 (by decide) (fun c24 => ?_) (fun c24 => ?_)
              · replace hv := ite_t hv c24
                refine y_lv (lv' := [(0, .ref (w.1 0)), (1, .int l1), (2, .int l2), (5, .int l5), (6, .int v20)]) [1, 2, 3, 6, 0] rfl ?_
                exact hb103 u21 l1 l2 l5 v20 hv
              · replace hv := ite_f hv c24
                refine y_iload E dX11_wait_96 0 rfl ?_
                refine y_iload E dX11_wait_98 5 rfl ?_
                refine y_icmp_ge (tgt := 110) E dX11_wait_100 (by decide) (fun c25 => ?_) (fun c25 => ?_)
                · replace hv := ite_t hv c25
                  obtain ⟨x26, hx26⟩ : ∃ z : Int32, z = l5 + 1 := ⟨_, rfl⟩
                  replace hv := hv x26 hx26
                  refine y_iinc (v := x26) (lv' := [(5, .int x26), (6, .int v20), (0, .ref (w.1 0)), (1, .int l1), (2, .int l2), (3, .int l3), (4, .int l4)]) E dX11_wait_110 6 rfl (by rw [hx26]; rfl) (by decide) rfl ?_
                  refine y_goto (tgt := 38) E dX11_wait_113 (by decide) ?_
                  refine y_lv (lv' := [(0, .ref (w.1 0)), (1, .int l1), (2, .int l2), (3, .int l3), (4, .int l4), (5, .int x26)]) [2, 3, 4, 5, 6, 0] rfl ?_
                  exact ih38 u21 l1 l2 l3 l4 x26 hv
                · replace hv := ite_f hv c25
                  refine y_lv (lv' := [(0, .ref (w.1 0)), (1, .int l1), (2, .int l2), (5, .int l5), (6, .int v20)]) [1, 2, 3, 6, 0] rfl ?_
                  exact hb103 u21 l1 l2 l5 v20 hv
          · replace hv := ite_t hv c17
            refine y_goto (tgt := 110) E dX11_wait_68 (by decide) ?_
            obtain ⟨x27, hx27⟩ : ∃ z : Int32, z = l5 + 1 := ⟨_, rfl⟩
            replace hv := hv x27 hx27
            refine y_iinc (v := x27) (lv' := [(5, .int x27), (0, .ref (w.1 0)), (1, .int l1), (2, .int l2), (3, .int l3), (4, .int l4)]) E dX11_wait_110 5 rfl (by rw [hx27]; rfl) (by decide) rfl ?_
            refine y_goto (tgt := 38) E dX11_wait_113 (by decide) ?_
            refine y_lv (lv' := [(0, .ref (w.1 0)), (1, .int l1), (2, .int l2), (3, .int l3), (4, .int l4), (5, .int x27)]) [1, 2, 3, 4, 5, 0] rfl ?_
            exact ih38 u14 l1 l2 l3 l4 x27 hv
  refine y_aload_n E dX11_wait_0 0 rfl ?_
  refine y_iload_n E dX11_wait_1 1 rfl ?_
  refine y_calli E (y_runV E (rest := []) (kX11_isThing l w E.2.2.1 σ a1 _ hv) (y_cwV 1 E.1.2.2.2.2 wm_322 wm_323 wm_324 wm_116 wm_325 (by decide +kernel) (yRm_le (by decide) (by decide))) (Nat.lt_of_lt_of_le (show 0 < 1 by decide) (by decide)) (xc_X11 (by decide) (by decide)) rfl rfl rfl (Nat.le_of_ble_eq_true rfl) dX11_wait_2) (fun v1 u2 hk => ?_)
  clear hv
  have hv := hk
  clear hk
  refine y_if_ne (tgt := 11) E dX11_wait_5 (by decide) (fun c3 => ?_) (fun c3 => ?_)
  · replace hv := ite_f hv c3
    refine y_iload_n E dX11_wait_11 2 rfl ?_
    refine y_calli E (y_runS E (rest := []) (kX11_isChoice l w E.2.2.1 u2 a2 _ hv) (y_cwS 1 E.1.2.2.2.2 wm_327 wm_334 wm_116 wm_335 (by decide +kernel) (yRm_le (by decide) (by decide))) rfl rfl (Nat.le_of_ble_eq_true rfl) dX11_wait_12) (fun v4 u5 hk => ?_)
    clear hv
    have hv := hk
    clear hk
    refine y_if_ne (tgt := 21) E dX11_wait_15 (by decide) (fun c6 => ?_) (fun c6 => ?_)
    · replace hv := ite_f hv c6
      refine y_aload_n E dX11_wait_21 0 rfl ?_
      refine y_aload_n E dX11_wait_22 0 rfl ?_
      refine y_iload_n E dX11_wait_23 1 rfl ?_
      refine y_callr E (y_runV E (rest := [.ref (w.1 0)]) (kX11_lift l w E.2.2.1 u5 a1 _ hv) (y_cwV 1 E.1.2.2.2.2 wm_339 wm_348 wm_349 wm_116 wm_350 (by decide +kernel) (yRm_le (by decide) (by decide))) (Nat.lt_of_lt_of_le (show 0 < 1 by decide) (by decide)) (xc_X11 (by decide) (by decide)) rfl rfl rfl (Nat.le_of_ble_eq_true rfl) dX11_wait_24) (fun v7 u8 hk => ?_)
      clear hv
      have hv := hk
      clear hk
      obtain ⟨rfl, hv⟩ := hv
      refine y_callv E (y_runV E (rest := []) (kX11_follow l w E.2.2.1 u8 49 _ hv) (y_cwV 1 E.1.2.2.2.2 wm_340 wm_345 wm_346 wm_116 wm_347 (by decide +kernel) (yRm_le (by decide) (by decide))) (Nat.lt_of_lt_of_le (show 0 < 1 by decide) (by decide)) (xc_X11 (by decide) (by decide)) rfl rfl rfl (Nat.le_of_ble_eq_true rfl) dX11_wait_27) (fun u10 hk => ?_)
      clear hv
      have hv := hk
      clear hk
      refine y_iconst (v := (-1)) E dX11_wait_30 (by decide) ?_
      refine y_istore_n (lv' := [(3, .int (-1)), (0, .ref (w.1 0)), (1, .int a1), (2, .int a2)]) E dX11_wait_31 (by decide) rfl ?_
      refine y_iconst (v := (-1)) E dX11_wait_32 (by decide) ?_
      refine y_istore (lv' := [(4, .int (-1)), (3, .int (-1)), (0, .ref (w.1 0)), (1, .int a1), (2, .int a2)]) E dX11_wait_33 (by decide) rfl ?_
      refine y_iconst (v := 0) E dX11_wait_35 (by decide) ?_
      refine y_istore (lv' := [(5, .int 0), (4, .int (-1)), (3, .int (-1)), (0, .ref (w.1 0)), (1, .int a1), (2, .int a2)]) E dX11_wait_36 (by decide) rfl ?_
      refine y_lv (lv' := [(0, .ref (w.1 0)), (1, .int a1), (2, .int a2), (3, .int (-1)), (4, .int (-1)), (5, .int 0)]) [3, 4, 5, 2, 1, 0] rfl ?_
      obtain ⟨n0, hv⟩ := hv
      exact hL38 n0 u10 a1 a2 (-1) (-1) 0 hv
    · replace hv := ite_t hv c6
      refine y_bipush (v := (-7)) E dX11_wait_18 (by decide) ?_
      exact y_iret E dX11_wait_20 hv
  · replace hv := ite_t hv c3
    refine y_bipush (v := (-5)) E dX11_wait_8 (by decide) ?_
    exact y_iret E dX11_wait_10 hv
theorem dX11_letGo_0 : decode cX11_letGo 0 = .ok (.aload_n 0, 1) := by decide +kernel
theorem dX11_letGo_1 : decode cX11_letGo 1 = .ok (.iload_n 1, 1) := by decide +kernel
theorem dX11_letGo_2 : decode cX11_letGo 2 = .ok (.invokevirtual 200, 3) := by decide +kernel
theorem dX11_letGo_5 : decode cX11_letGo 5 = .ok (.astore_n 3, 1) := by decide +kernel
theorem dX11_letGo_6 : decode cX11_letGo 6 = .ok (.aload_n 3, 1) := by decide +kernel
theorem dX11_letGo_7 : decode cX11_letGo 7 = .ok (.iload_n 2, 1) := by decide +kernel
theorem dX11_letGo_8 : decode cX11_letGo 8 = .ok (.putfield 191, 3) := by decide +kernel
theorem dX11_letGo_11 : decode cX11_letGo 11 = .ok (.aload_n 3, 1) := by decide +kernel
theorem dX11_letGo_12 : decode cX11_letGo 12 = .ok (.areturn, 1) := by decide +kernel
set_option maxRecDepth 100000 in
set_option maxHeartbeats 4000000 in
theorem kX11_letGo (l : Launch) (w : wT) (hw : yOk w 55) (σ : Hp) (a1 : Int32) (a2 : Int32) (K : Nat → Hp → Prop) (hv : VX11_letGo K σ a1 a2) : yMet l w xcf 55 yX11_letGo cX11_letGo 4 (some (.object "WhereTheSpoonWent$Flight")) 3 [.ref (w.1 0), .int a1, .int a2] σ (yQr w xcf 55 K) := by
  unfold VX11_letGo at hv
  refine y_start (lv0 := [(0, .ref (w.1 0)), (1, .int a1), (2, .int a2)]) (by decide +kernel) (own := RX11) rfl hw (Nat.le_of_ble_eq_true rfl) rfl (fun p e s m below meth c A E => ?_)
  refine y_aload_n E dX11_letGo_0 0 rfl ?_
  refine y_iload_n E dX11_letGo_1 1 rfl ?_
  refine y_callr E (y_runV E (rest := []) (kX11_lift l w E.2.2.1 σ a1 _ hv) (y_cwV 1 E.1.2.2.2.2 wm_339 wm_348 wm_349 wm_116 wm_350 (by decide +kernel) (yRm_le (by decide) (by decide))) (Nat.lt_of_lt_of_le (show 0 < 1 by decide) (by decide)) (xc_X11 (by decide) (by decide)) rfl rfl rfl (Nat.le_of_ble_eq_true rfl) dX11_letGo_2) (fun v1 u2 hk => ?_)
  clear hv
  have hv := hk
  clear hk
  obtain ⟨rfl, hv⟩ := hv
  refine y_astore_n (lv' := [(3, .ref (w.1 49)), (0, .ref (w.1 0)), (1, .int a1), (2, .int a2)]) E dX11_letGo_5 (by decide) rfl ?_
  refine y_aload_n E dX11_letGo_6 0 rfl ?_
  refine y_iload_n E dX11_letGo_7 3 rfl ?_
  refine pf_X1_7 E (by decide) (by decide) wm_329 dX11_letGo_8 ?_
  refine y_nmH (fun u3 hu3 => ?_)
  replace hv := hv u3 hu3
  refine y_aload_n E dX11_letGo_11 0 rfl ?_
  exact y_aret E dX11_letGo_12 hv
theorem dX11_toss_0 : decode cX11_toss 0 = .ok (.aload_n 0, 1) := by decide +kernel
theorem dX11_toss_1 : decode cX11_toss 1 = .ok (.iload_n 1, 1) := by decide +kernel
theorem dX11_toss_2 : decode cX11_toss 2 = .ok (.invokevirtual 175, 3) := by decide +kernel
theorem dX11_toss_5 : decode cX11_toss 5 = .ok (.ifCond .ne 6, 3) := by decide +kernel
theorem dX11_toss_8 : decode cX11_toss 8 = .ok (.bipush (-5), 2) := by decide +kernel
theorem dX11_toss_10 : decode cX11_toss 10 = .ok (.ireturn, 1) := by decide +kernel
theorem dX11_toss_11 : decode cX11_toss 11 = .ok (.iload_n 2, 1) := by decide +kernel
theorem dX11_toss_12 : decode cX11_toss 12 = .ok (.ifCond .lt 31, 3) := by decide +kernel
theorem dX11_toss_15 : decode cX11_toss 15 = .ok (.aload_n 0, 1) := by decide +kernel
theorem dX11_toss_16 : decode cX11_toss 16 = .ok (.iload_n 2, 1) := by decide +kernel
theorem dX11_toss_17 : decode cX11_toss 17 = .ok (.bipush 100, 2) := by decide +kernel
theorem dX11_toss_19 : decode cX11_toss 19 = .ok (.idiv, 1) := by decide +kernel
theorem dX11_toss_20 : decode cX11_toss 20 = .ok (.invokevirtual 158, 3) := by decide +kernel
theorem dX11_toss_23 : decode cX11_toss 23 = .ok (.ifCond .eq 20, 3) := by decide +kernel
theorem dX11_toss_26 : decode cX11_toss 26 = .ok (.iload_n 2, 1) := by decide +kernel
theorem dX11_toss_27 : decode cX11_toss 27 = .ok (.bipush 100, 2) := by decide +kernel
theorem dX11_toss_29 : decode cX11_toss 29 = .ok (.irem, 1) := by decide +kernel
theorem dX11_toss_30 : decode cX11_toss 30 = .ok (.invokestatic 97, 3) := by decide +kernel
theorem dX11_toss_33 : decode cX11_toss 33 = .ok (.ifCond .eq 10, 3) := by decide +kernel
theorem dX11_toss_36 : decode cX11_toss 36 = .ok (.iload_n 3, 1) := by decide +kernel
theorem dX11_toss_37 : decode cX11_toss 37 = .ok (.invokestatic 181, 3) := by decide +kernel
theorem dX11_toss_40 : decode cX11_toss 40 = .ok (.ifCond .ne 6, 3) := by decide +kernel
theorem dX11_toss_43 : decode cX11_toss 43 = .ok (.bipush (-7), 2) := by decide +kernel
theorem dX11_toss_45 : decode cX11_toss 45 = .ok (.ireturn, 1) := by decide +kernel
theorem dX11_toss_46 : decode cX11_toss 46 = .ok (.iconst (-1), 1) := by decide +kernel
theorem dX11_toss_47 : decode cX11_toss 47 = .ok (.istore 4, 2) := by decide +kernel
theorem dX11_toss_49 : decode cX11_toss 49 = .ok (.iconst (-1), 1) := by decide +kernel
theorem dX11_toss_50 : decode cX11_toss 50 = .ok (.istore 5, 2) := by decide +kernel
theorem dX11_toss_52 : decode cX11_toss 52 = .ok (.iconst 0, 1) := by decide +kernel
theorem dX11_toss_53 : decode cX11_toss 53 = .ok (.istore 6, 2) := by decide +kernel
theorem dX11_toss_55 : decode cX11_toss 55 = .ok (.iload 6, 2) := by decide +kernel
theorem dX11_toss_57 : decode cX11_toss 57 = .ok (.iconst 4, 1) := by decide +kernel
theorem dX11_toss_58 : decode cX11_toss 58 = .ok (.if_icmp .ge 68, 3) := by decide +kernel
theorem dX11_toss_61 : decode cX11_toss 61 = .ok (.aload_n 0, 1) := by decide +kernel
theorem dX11_toss_62 : decode cX11_toss 62 = .ok (.iload_n 1, 1) := by decide +kernel
theorem dX11_toss_63 : decode cX11_toss 63 = .ok (.iload 6, 2) := by decide +kernel
theorem dX11_toss_65 : decode cX11_toss 65 = .ok (.invokevirtual 223, 3) := by decide +kernel
theorem dX11_toss_68 : decode cX11_toss 68 = .ok (.astore 7, 2) := by decide +kernel
theorem dX11_toss_70 : decode cX11_toss 70 = .ok (.aload 7, 2) := by decide +kernel
theorem dX11_toss_72 : decode cX11_toss 72 = .ok (.iload_n 2, 1) := by decide +kernel
theorem dX11_toss_73 : decode cX11_toss 73 = .ok (.bipush 100, 2) := by decide +kernel
theorem dX11_toss_75 : decode cX11_toss 75 = .ok (.idiv, 1) := by decide +kernel
theorem dX11_toss_76 : decode cX11_toss 76 = .ok (.putfield 188, 3) := by decide +kernel
theorem dX11_toss_79 : decode cX11_toss 79 = .ok (.aload_n 0, 1) := by decide +kernel
theorem dX11_toss_80 : decode cX11_toss 80 = .ok (.aload 7, 2) := by decide +kernel
theorem dX11_toss_82 : decode cX11_toss 82 = .ok (.invokevirtual 204, 3) := by decide +kernel
theorem dX11_toss_85 : decode cX11_toss 85 = .ok (.aload_n 0, 1) := by decide +kernel
theorem dX11_toss_86 : decode cX11_toss 86 = .ok (.iload_n 2, 1) := by decide +kernel
theorem dX11_toss_87 : decode cX11_toss 87 = .ok (.bipush 100, 2) := by decide +kernel
theorem dX11_toss_89 : decode cX11_toss 89 = .ok (.irem, 1) := by decide +kernel
theorem dX11_toss_90 : decode cX11_toss 90 = .ok (.invokevirtual 208, 3) := by decide +kernel
theorem dX11_toss_93 : decode cX11_toss 93 = .ok (.istore 8, 2) := by decide +kernel
theorem dX11_toss_95 : decode cX11_toss 95 = .ok (.iload 8, 2) := by decide +kernel
theorem dX11_toss_97 : decode cX11_toss 97 = .ok (.ifCond .lt 23, 3) := by decide +kernel
theorem dX11_toss_100 : decode cX11_toss 100 = .ok (.iload 5, 2) := by decide +kernel
theorem dX11_toss_102 : decode cX11_toss 102 = .ok (.ifCond .lt 10, 3) := by decide +kernel
theorem dX11_toss_105 : decode cX11_toss 105 = .ok (.iload 8, 2) := by decide +kernel
theorem dX11_toss_107 : decode cX11_toss 107 = .ok (.iload 5, 2) := by decide +kernel
theorem dX11_toss_109 : decode cX11_toss 109 = .ok (.if_icmp .ge 11, 3) := by decide +kernel
theorem dX11_toss_112 : decode cX11_toss 112 = .ok (.iload 6, 2) := by decide +kernel
theorem dX11_toss_114 : decode cX11_toss 114 = .ok (.istore 4, 2) := by decide +kernel
theorem dX11_toss_116 : decode cX11_toss 116 = .ok (.iload 8, 2) := by decide +kernel
theorem dX11_toss_118 : decode cX11_toss 118 = .ok (.istore 5, 2) := by decide +kernel
theorem dX11_toss_120 : decode cX11_toss 120 = .ok (.iinc 6 1, 3) := by decide +kernel
theorem dX11_toss_123 : decode cX11_toss 123 = .ok (.goto (-68), 3) := by decide +kernel
theorem dX11_toss_126 : decode cX11_toss 126 = .ok (.iload_n 3, 1) := by decide +kernel
theorem dX11_toss_127 : decode cX11_toss 127 = .ok (.ifCond .ne 8, 3) := by decide +kernel
theorem dX11_toss_130 : decode cX11_toss 130 = .ok (.iload 4, 2) := by decide +kernel
theorem dX11_toss_132 : decode cX11_toss 132 = .ok (.goto 5, 3) := by decide +kernel
theorem dX11_toss_135 : decode cX11_toss 135 = .ok (.iload 5, 2) := by decide +kernel
theorem dX11_toss_137 : decode cX11_toss 137 = .ok (.ireturn, 1) := by decide +kernel
set_option maxRecDepth 100000 in
set_option maxHeartbeats 4000000 in
theorem kX11_toss (l : Launch) (w : wT) (hw : yOk w 55) (σ : Hp) (a1 : Int32) (a2 : Int32) (a3 : Int32) (K : Int32 → Hp → Prop) (hv : VX11_toss K σ a1 a2 a3) : yMet l w xcf 55 yX11_toss cX11_toss 9 (some .int) 6 [.ref (w.1 0), .int a1, .int a2, .int a3] σ (yQi w xcf 55 K) := by
  unfold VX11_toss at hv
  refine y_start (lv0 := [(0, .ref (w.1 0)), (1, .int a1), (2, .int a2), (3, .int a3)]) (by decide +kernel) (own := RX11) rfl hw (Nat.le_of_ble_eq_true rfl) rfl (fun p e s m below meth c A E => ?_)
  have hL55 : ∀ (n55 : Nat) (σ : Hp) (l1 : Int32) (l2 : Int32) (l3 : Int32) (l4 : Int32) (l5 : Int32) (l6 : Int32), VX11_toss_L55 K n55 σ l1 l2 l3 l4 l5 l6 → YY p l e (yRm 6) s m [.ref (w.1 0), .int a1, .int a2, .int a3].toArray below meth c w xcf 55 A (MQ below (yQi w xcf 55 K A) [.ref (w.1 0), .int a1, .int a2, .int a3].toArray s 0 0 A) 9 σ 55 [(0, .ref (w.1 0)), (1, .int l1), (2, .int l2), (3, .int l3), (4, .int l4), (5, .int l5), (6, .int l6)] [] := by
    intro n55
    induction n55 with
    | zero => exact fun _ _ _ _ _ _ _ hv => (by unfold VX11_toss_L55 at hv; exact hv.elim)
    | succ n55 ih55 =>
      have hb112 : ∀ (σ : Hp) (l1 : Int32) (l2 : Int32) (l3 : Int32) (l6 : Int32) (l8 : Int32), VX11_toss_b112 K (VX11_toss_L55 K n55) σ l1 l2 l3 l6 l8 → YY p l e (yRm 6) s m [.ref (w.1 0), .int a1, .int a2, .int a3].toArray below meth c w xcf 55 A (MQ below (yQi w xcf 55 K A) [.ref (w.1 0), .int a1, .int a2, .int a3].toArray s 0 0 A) 9 σ 112 [(0, .ref (w.1 0)), (1, .int l1), (2, .int l2), (3, .int l3), (6, .int l6), (8, .int l8)] [] := by
        intro σ l1 l2 l3 l6 l8 hv
        unfold VX11_toss_b112 at hv
        refine y_iload E dX11_toss_112 4 rfl ?_
        refine y_istore (lv' := [(4, .int l6), (0, .ref (w.1 0)), (1, .int l1), (2, .int l2), (3, .int l3), (6, .int l6), (8, .int l8)]) E dX11_toss_114 (by decide) rfl ?_
        refine y_iload E dX11_toss_116 6 rfl ?_
        refine y_istore (lv' := [(5, .int l8), (4, .int l6), (0, .ref (w.1 0)), (1, .int l1), (2, .int l2), (3, .int l3), (6, .int l6), (8, .int l8)]) E dX11_toss_118 (by decide) rfl ?_
        obtain ⟨x28, hx28⟩ : ∃ z : Int32, z = l6 + 1 := ⟨_, rfl⟩
        replace hv := hv x28 hx28
        refine y_iinc (v := x28) (lv' := [(6, .int x28), (5, .int l8), (4, .int l6), (0, .ref (w.1 0)), (1, .int l1), (2, .int l2), (3, .int l3), (8, .int l8)]) E dX11_toss_120 6 rfl (by rw [hx28]; rfl) (by decide) rfl ?_
        refine y_goto (tgt := 55) E dX11_toss_123 (by decide) ?_
        refine y_lv (lv' := [(0, .ref (w.1 0)), (1, .int l1), (2, .int l2), (3, .int l3), (4, .int l6), (5, .int l8), (6, .int x28)]) [3, 4, 5, 6, 2, 1, 0] rfl ?_
        exact ih55 σ l1 l2 l3 l6 l8 x28 hv
      intro σ l1 l2 l3 l4 l5 l6 hv
      unfold VX11_toss_L55 at hv
      refine y_iload E dX11_toss_55 6 rfl ?_
      refine y_iconst (v := 4) E dX11_toss_57 (by decide) ?_
      refine y_icmp_ge (tgt := 126) E dX11_toss_58 (by decide) (fun c14 => ?_) (fun c14 => ?_)
      · replace hv := ite_t hv c14
        refine y_iload_n E dX11_toss_126 3 rfl ?_
        refine y_if_ne (tgt := 135) E dX11_toss_127 (by decide) (fun c15 => ?_) (fun c15 => ?_)
        · replace hv := ite_f hv c15
          refine y_iload E dX11_toss_135 5 rfl ?_
          exact y_iret E dX11_toss_137 hv
        · replace hv := ite_t hv c15
          refine y_iload E dX11_toss_130 4 rfl ?_
          refine y_goto (tgt := 137) E dX11_toss_132 (by decide) ?_
          exact y_iret E dX11_toss_137 hv
      · replace hv := ite_f hv c14
        refine y_aload_n E dX11_toss_61 0 rfl ?_
        refine y_iload_n E dX11_toss_62 1 rfl ?_
        refine y_iload E dX11_toss_63 6 rfl ?_
        refine y_callr E (y_runV E (rest := []) (kX11_letGo l w E.2.2.1 σ l1 l6 _ hv) (y_cwV 2 E.1.2.2.2.2 wm_365 wm_366 wm_367 wm_116 wm_368 (by decide +kernel) (yRm_le (by decide) (by decide))) (Nat.lt_of_lt_of_le (show 0 < 1 by decide) (by decide)) (xc_X11 (by decide) (by decide)) rfl rfl rfl (Nat.le_of_ble_eq_true rfl) dX11_toss_65) (fun v16 u17 hk => ?_)
        clear hv
        have hv := hk
        clear hk
        obtain ⟨rfl, hv⟩ := hv
        refine y_astore (lv' := [(7, .ref (w.1 49)), (0, .ref (w.1 0)), (1, .int l1), (2, .int l2), (3, .int l3), (4, .int l4), (5, .int l5), (6, .int l6)]) E dX11_toss_68 (by decide) rfl ?_
        refine y_aload E dX11_toss_70 0 rfl ?_
        refine y_iload_n E dX11_toss_72 3 rfl ?_
        refine y_bipush (v := 100) E dX11_toss_73 (by decide) ?_
        refine y_idiv E dX11_toss_75 (by decide) ?_
        refine pf_X1_6 E (by decide) (by decide) wm_330 dX11_toss_76 ?_
        refine y_nmH (fun u18 hu18 => ?_)
        replace hv := hv u18 hu18
        refine y_aload_n E dX11_toss_79 1 rfl ?_
        refine y_aload E dX11_toss_80 0 rfl ?_
        refine y_callv E (y_runV E (rest := []) (kX11_follow l w E.2.2.1 u18 49 _ hv) (y_cwV 1 E.1.2.2.2.2 wm_340 wm_345 wm_346 wm_116 wm_347 (by decide +kernel) (yRm_le (by decide) (by decide))) (Nat.lt_of_lt_of_le (show 0 < 1 by decide) (by decide)) (xc_X11 (by decide) (by decide)) rfl rfl rfl (Nat.le_of_ble_eq_true rfl) dX11_toss_82) (fun u20 hk => ?_)
        clear hv
        have hv := hk
        clear hk
        refine y_aload_n E dX11_toss_85 1 rfl ?_
        refine y_iload_n E dX11_toss_86 3 rfl ?_
        refine y_bipush (v := 100) E dX11_toss_87 (by decide) ?_
        refine y_irem E dX11_toss_89 (by decide) ?_
        refine y_calli E (y_runV E (rest := []) (kX11_firstIn l w E.2.2.1 u20 (jrem l2 100) _ hv) (y_cwV 1 E.1.2.2.2.2 wm_341 wm_342 wm_343 wm_116 wm_344 (by decide +kernel) (yRm_le (by decide) (by decide))) (Nat.lt_of_lt_of_le (show 0 < 1 by decide) (by decide)) (xc_X11 (by decide) (by decide)) rfl rfl rfl (Nat.le_of_ble_eq_true rfl) dX11_toss_90) (fun v21 u22 hk => ?_)
        clear hv
        have hv := hk
        clear hk
        refine y_istore (lv' := [(8, .int v21), (7, .ref (w.1 49)), (0, .ref (w.1 0)), (1, .int l1), (2, .int l2), (3, .int l3), (4, .int l4), (5, .int l5), (6, .int l6)]) E dX11_toss_93 (by decide) rfl ?_
        refine y_iload E dX11_toss_95 0 rfl ?_
        refine y_if_lt (tgt := 120) E dX11_toss_97 (by decide) (fun c23 => ?_) (fun c23 => ?_)
        · replace hv := ite_t hv c23
          obtain ⟨x24, hx24⟩ : ∃ z : Int32, z = l6 + 1 := ⟨_, rfl⟩
          replace hv := hv x24 hx24
          refine y_iinc (v := x24) (lv' := [(6, .int x24), (8, .int v21), (7, .ref (w.1 49)), (0, .ref (w.1 0)), (1, .int l1), (2, .int l2), (3, .int l3), (4, .int l4), (5, .int l5)]) E dX11_toss_120 8 rfl (by rw [hx24]; rfl) (by decide) rfl ?_
          refine y_goto (tgt := 55) E dX11_toss_123 (by decide) ?_
          refine y_lv (lv' := [(0, .ref (w.1 0)), (1, .int l1), (2, .int l2), (3, .int l3), (4, .int l4), (5, .int l5), (6, .int x24)]) [3, 4, 5, 6, 7, 8, 0] rfl ?_
          exact ih55 u22 l1 l2 l3 l4 l5 x24 hv
        · replace hv := ite_f hv c23
          refine y_iload E dX11_toss_100 7 rfl ?_
          refine y_if_lt (tgt := 112) E dX11_toss_102 (by decide) (fun c25 => ?_) (fun c25 => ?_)
          · replace hv := ite_t hv c25
            refine y_lv (lv' := [(0, .ref (w.1 0)), (1, .int l1), (2, .int l2), (3, .int l3), (6, .int l6), (8, .int v21)]) [2, 3, 4, 5, 8, 0] rfl ?_
            exact hb112 u22 l1 l2 l3 l6 v21 hv
          · replace hv := ite_f hv c25
            refine y_iload E dX11_toss_105 0 rfl ?_
            refine y_iload E dX11_toss_107 7 rfl ?_
            refine y_icmp_ge (tgt := 120) E dX11_toss_109 (by decide) (fun c26 => ?_) (fun c26 => ?_)
            · replace hv := ite_t hv c26
              obtain ⟨x27, hx27⟩ : ∃ z : Int32, z = l6 + 1 := ⟨_, rfl⟩
              replace hv := hv x27 hx27
              refine y_iinc (v := x27) (lv' := [(6, .int x27), (8, .int v21), (7, .ref (w.1 49)), (0, .ref (w.1 0)), (1, .int l1), (2, .int l2), (3, .int l3), (4, .int l4), (5, .int l5)]) E dX11_toss_120 8 rfl (by rw [hx27]; rfl) (by decide) rfl ?_
              refine y_goto (tgt := 55) E dX11_toss_123 (by decide) ?_
              refine y_lv (lv' := [(0, .ref (w.1 0)), (1, .int l1), (2, .int l2), (3, .int l3), (4, .int l4), (5, .int l5), (6, .int x27)]) [3, 4, 5, 6, 7, 8, 0] rfl ?_
              exact ih55 u22 l1 l2 l3 l4 l5 x27 hv
            · replace hv := ite_f hv c26
              refine y_lv (lv' := [(0, .ref (w.1 0)), (1, .int l1), (2, .int l2), (3, .int l3), (6, .int l6), (8, .int v21)]) [2, 3, 4, 5, 8, 0] rfl ?_
              exact hb112 u22 l1 l2 l3 l6 v21 hv
  refine y_aload_n E dX11_toss_0 0 rfl ?_
  refine y_iload_n E dX11_toss_1 1 rfl ?_
  refine y_calli E (y_runV E (rest := []) (kX11_isThing l w E.2.2.1 σ a1 _ hv) (y_cwV 1 E.1.2.2.2.2 wm_322 wm_323 wm_324 wm_116 wm_325 (by decide +kernel) (yRm_le (by decide) (by decide))) (Nat.lt_of_lt_of_le (show 0 < 1 by decide) (by decide)) (xc_X11 (by decide) (by decide)) rfl rfl rfl (Nat.le_of_ble_eq_true rfl) dX11_toss_2) (fun v1 u2 hk => ?_)
  clear hv
  have hv := hk
  clear hk
  refine y_if_ne (tgt := 11) E dX11_toss_5 (by decide) (fun c3 => ?_) (fun c3 => ?_)
  · replace hv := ite_f hv c3
    refine y_iload_n E dX11_toss_11 2 rfl ?_
    refine y_if_lt (tgt := 43) E dX11_toss_12 (by decide) (fun c4 => ?_) (fun c4 => ?_)
    · replace hv := ite_t hv c4
      refine y_bipush (v := (-7)) E dX11_toss_43 (by decide) ?_
      exact y_iret E dX11_toss_45 hv
    · replace hv := ite_f hv c4
      refine y_aload_n E dX11_toss_15 0 rfl ?_
      refine y_iload_n E dX11_toss_16 2 rfl ?_
      refine y_bipush (v := 100) E dX11_toss_17 (by decide) ?_
      refine y_idiv E dX11_toss_19 (by decide) ?_
      refine y_calli E (y_runV E (rest := []) (kX11_isOpen l w E.2.2.1 u2 (a2 / 100) _ hv) (y_cwV 1 E.1.2.2.2.2 wm_311 wm_319 wm_320 wm_116 wm_321 (by decide +kernel) (yRm_le (by decide) (by decide))) (Nat.lt_of_lt_of_le (show 0 < 1 by decide) (by decide)) (xc_X11 (by decide) (by decide)) rfl rfl rfl (Nat.le_of_ble_eq_true rfl) dX11_toss_20) (fun v5 u6 hk => ?_)
      clear hv
      have hv := hk
      clear hk
      refine y_if_eq (tgt := 43) E dX11_toss_23 (by decide) (fun c7 => ?_) (fun c7 => ?_)
      · replace hv := ite_t hv c7
        refine y_bipush (v := (-7)) E dX11_toss_43 (by decide) ?_
        exact y_iret E dX11_toss_45 hv
      · replace hv := ite_f hv c7
        refine y_iload_n E dX11_toss_26 2 rfl ?_
        refine y_bipush (v := 100) E dX11_toss_27 (by decide) ?_
        refine y_irem E dX11_toss_29 (by decide) ?_
        refine y_calli E (y_runS E (rest := []) (kX11_isCell l w E.2.2.1 u6 (jrem a2 100) _ hv) (y_cwS 1 E.1.2.2.2.2 wm_265 wm_270 wm_116 wm_271 (by decide +kernel) (yRm_le (by decide) (by decide))) rfl rfl (Nat.le_of_ble_eq_true rfl) dX11_toss_30) (fun v8 u9 hk => ?_)
        clear hv
        have hv := hk
        clear hk
        refine y_if_eq (tgt := 43) E dX11_toss_33 (by decide) (fun c10 => ?_) (fun c10 => ?_)
        · replace hv := ite_t hv c10
          refine y_bipush (v := (-7)) E dX11_toss_43 (by decide) ?_
          exact y_iret E dX11_toss_45 hv
        · replace hv := ite_f hv c10
          refine y_iload_n E dX11_toss_36 3 rfl ?_
          refine y_calli E (y_runS E (rest := []) (kX11_isChoice l w E.2.2.1 u9 a3 _ hv) (y_cwS 1 E.1.2.2.2.2 wm_327 wm_334 wm_116 wm_335 (by decide +kernel) (yRm_le (by decide) (by decide))) rfl rfl (Nat.le_of_ble_eq_true rfl) dX11_toss_37) (fun v11 u12 hk => ?_)
          clear hv
          have hv := hk
          clear hk
          refine y_if_ne (tgt := 46) E dX11_toss_40 (by decide) (fun c13 => ?_) (fun c13 => ?_)
          · replace hv := ite_f hv c13
            refine y_iconst (v := (-1)) E dX11_toss_46 (by decide) ?_
            refine y_istore (lv' := [(4, .int (-1)), (0, .ref (w.1 0)), (1, .int a1), (2, .int a2), (3, .int a3)]) E dX11_toss_47 (by decide) rfl ?_
            refine y_iconst (v := (-1)) E dX11_toss_49 (by decide) ?_
            refine y_istore (lv' := [(5, .int (-1)), (4, .int (-1)), (0, .ref (w.1 0)), (1, .int a1), (2, .int a2), (3, .int a3)]) E dX11_toss_50 (by decide) rfl ?_
            refine y_iconst (v := 0) E dX11_toss_52 (by decide) ?_
            refine y_istore (lv' := [(6, .int 0), (5, .int (-1)), (4, .int (-1)), (0, .ref (w.1 0)), (1, .int a1), (2, .int a2), (3, .int a3)]) E dX11_toss_53 (by decide) rfl ?_
            refine y_lv (lv' := [(0, .ref (w.1 0)), (1, .int a1), (2, .int a2), (3, .int a3), (4, .int (-1)), (5, .int (-1)), (6, .int 0)]) [3, 4, 5, 6, 2, 1, 0] rfl ?_
            obtain ⟨n0, hv⟩ := hv
            exact hL55 n0 u12 a1 a2 a3 (-1) (-1) 0 hv
          · replace hv := ite_t hv c13
            refine y_bipush (v := (-7)) E dX11_toss_43 (by decide) ?_
            exact y_iret E dX11_toss_45 hv
  · replace hv := ite_t hv c3
    refine y_bipush (v := (-5)) E dX11_toss_8 (by decide) ?_
    exact y_iret E dX11_toss_10 hv
theorem dX11_key_0 : decode cX11_key 0 = .ok (.iconst 0, 1) := by decide +kernel
theorem dX11_key_1 : decode cX11_key 1 = .ok (.istore_n 1, 1) := by decide +kernel
theorem dX11_key_2 : decode cX11_key 2 = .ok (.iconst 0, 1) := by decide +kernel
theorem dX11_key_3 : decode cX11_key 3 = .ok (.istore_n 2, 1) := by decide +kernel
theorem dX11_key_4 : decode cX11_key 4 = .ok (.iload_n 2, 1) := by decide +kernel
theorem dX11_key_5 : decode cX11_key 5 = .ok (.aload_n 0, 1) := by decide +kernel
theorem dX11_key_6 : decode cX11_key 6 = .ok (.getfield 12, 3) := by decide +kernel
theorem dX11_key_9 : decode cX11_key 9 = .ok (.getfield 122, 3) := by decide +kernel
theorem dX11_key_12 : decode cX11_key 12 = .ok (.if_icmp .ge 51, 3) := by decide +kernel
theorem dX11_key_15 : decode cX11_key 15 = .ok (.iload_n 1, 1) := by decide +kernel
theorem dX11_key_16 : decode cX11_key 16 = .ok (.aload_n 0, 1) := by decide +kernel
theorem dX11_key_17 : decode cX11_key 17 = .ok (.getfield 12, 3) := by decide +kernel
theorem dX11_key_20 : decode cX11_key 20 = .ok (.getfield 172, 3) := by decide +kernel
theorem dX11_key_23 : decode cX11_key 23 = .ok (.iload_n 2, 1) := by decide +kernel
theorem dX11_key_24 : decode cX11_key 24 = .ok (.iaload, 1) := by decide +kernel
theorem dX11_key_25 : decode cX11_key 25 = .ok (.iconst 4, 1) := by decide +kernel
theorem dX11_key_26 : decode cX11_key 26 = .ok (.if_icmp .eq 7, 3) := by decide +kernel
theorem dX11_key_29 : decode cX11_key 29 = .ok (.iconst 1, 1) := by decide +kernel
theorem dX11_key_30 : decode cX11_key 30 = .ok (.goto 4, 3) := by decide +kernel
theorem dX11_key_33 : decode cX11_key 33 = .ok (.iconst 0, 1) := by decide +kernel
theorem dX11_key_34 : decode cX11_key 34 = .ok (.iadd, 1) := by decide +kernel
theorem dX11_key_35 : decode cX11_key 35 = .ok (.istore_n 1, 1) := by decide +kernel
theorem dX11_key_36 : decode cX11_key 36 = .ok (.aload_n 0, 1) := by decide +kernel
theorem dX11_key_37 : decode cX11_key 37 = .ok (.getfield 12, 3) := by decide +kernel
theorem dX11_key_40 : decode cX11_key 40 = .ok (.getfield 172, 3) := by decide +kernel
theorem dX11_key_43 : decode cX11_key 43 = .ok (.iload_n 2, 1) := by decide +kernel
theorem dX11_key_44 : decode cX11_key 44 = .ok (.aload_n 0, 1) := by decide +kernel
theorem dX11_key_45 : decode cX11_key 45 = .ok (.getfield 12, 3) := by decide +kernel
theorem dX11_key_48 : decode cX11_key 48 = .ok (.getfield 172, 3) := by decide +kernel
theorem dX11_key_51 : decode cX11_key 51 = .ok (.iload_n 2, 1) := by decide +kernel
theorem dX11_key_52 : decode cX11_key 52 = .ok (.iaload, 1) := by decide +kernel
theorem dX11_key_53 : decode cX11_key 53 = .ok (.invokestatic 226, 3) := by decide +kernel
theorem dX11_key_56 : decode cX11_key 56 = .ok (.iastore, 1) := by decide +kernel
theorem dX11_key_57 : decode cX11_key 57 = .ok (.iinc 2 1, 3) := by decide +kernel
theorem dX11_key_60 : decode cX11_key 60 = .ok (.goto (-56), 3) := by decide +kernel
theorem dX11_key_63 : decode cX11_key 63 = .ok (.iload_n 1, 1) := by decide +kernel
theorem dX11_key_64 : decode cX11_key 64 = .ok (.ireturn, 1) := by decide +kernel
set_option maxRecDepth 100000 in
set_option maxHeartbeats 4000000 in
theorem kX11_key (l : Launch) (w : wT) (hw : yOk w 55) (σ : Hp)  (K : Int32 → Hp → Prop) (hv : VX11_key K σ ) : yMet l w xcf 55 yX11_key cX11_key 3 (some .int) 2 [.ref (w.1 0)] σ (yQi w xcf 55 K) := by
  unfold VX11_key at hv
  refine y_start (lv0 := [(0, .ref (w.1 0))]) (by decide +kernel) (own := RX11) rfl hw (Nat.le_of_ble_eq_true rfl) rfl (fun p e s m below meth c A E => ?_)
  have hL4 : ∀ (n4 : Nat) (σ : Hp) (l1 : Int32) (l2 : Int32), VX11_key_L4 K n4 σ l1 l2 → YY p l e (yRm 2) s m [.ref (w.1 0)].toArray below meth c w xcf 55 A (MQ below (yQi w xcf 55 K A) [.ref (w.1 0)].toArray s 0 0 A) 3 σ 4 [(0, .ref (w.1 0)), (1, .int l1), (2, .int l2)] [] := by
    intro n4
    induction n4 with
    | zero => exact fun _ _ _ hv => (by unfold VX11_key_L4 at hv; exact hv.elim)
    | succ n4 ih4 =>
      have hb34 : ∀ (σ : Hp) (l2 : Int32) (s0 : Int32) (s1 : Int32), VX11_key_b34 K (VX11_key_L4 K n4) σ l2 s0 s1 → YY p l e (yRm 2) s m [.ref (w.1 0)].toArray below meth c w xcf 55 A (MQ below (yQi w xcf 55 K A) [.ref (w.1 0)].toArray s 0 0 A) 3 σ 34 [(0, .ref (w.1 0)), (2, .int l2)] [.int s0, .int s1] := by
        intro σ l2 s0 s1 hv
        unfold VX11_key_b34 at hv
        refine y_iadd E dX11_key_34 ?_
        refine y_nmi (fun x3 hx3 => ?_)
        replace hv := hv x3 hx3
        refine y_istore_n (lv' := [(1, .int x3), (0, .ref (w.1 0)), (2, .int l2)]) E dX11_key_35 (by decide) rfl ?_
        refine y_aload_n E dX11_key_36 1 rfl ?_
        refine gf_X11_0 E (by decide) (by decide) wm_272 dX11_key_37 ?_
        refine gf_X3_9 (q := 6) E (by decide) (by decide) rfl wm_316 dX11_key_40 ?_
        refine y_iload_n E dX11_key_43 2 rfl ?_
        refine y_aload_n E dX11_key_44 1 rfl ?_
        refine gf_X11_0 E (by decide) (by decide) wm_272 dX11_key_45 ?_
        refine gf_X3_9 (q := 6) E (by decide) (by decide) rfl wm_316 dX11_key_48 ?_
        refine y_iload_n E dX11_key_51 2 rfl ?_
        obtain ⟨hi, hv⟩ := hv
        refine y_iald E (Nat.lt_of_lt_of_le (show 6 < 11 by decide) (by decide)) (xc_harr (by decide) (by decide)) hi dX11_key_52 ?_
        refine y_calli E (y_runS E (rest := [.int l2, .ref (w.1 6)]) (kX11_turned l w E.2.2.1 σ (σ 6 l2.toNatClampNeg) _ hv) (y_cwS 1 E.1.2.2.2.2 wm_369 wm_370 wm_116 wm_371 (by decide +kernel) (yRm_le (by decide) (by decide))) rfl rfl (Nat.le_of_ble_eq_true rfl) dX11_key_53) (fun v4 u5 hk => ?_)
        clear hv
        have hv := hk
        clear hk
        obtain ⟨hi, hv⟩ := hv
        refine y_iast E (Nat.lt_of_lt_of_le (show 6 < 11 by decide) (by decide)) (fun _ => xc_harr (by decide) (by decide)) hi dX11_key_56 ?_
        refine y_nmH (fun u6 hu6 => ?_)
        replace hv := hv u6 hu6
        obtain ⟨x7, hx7⟩ : ∃ z : Int32, z = l2 + 1 := ⟨_, rfl⟩
        replace hv := hv x7 hx7
        refine y_iinc (v := x7) (lv' := [(2, .int x7), (1, .int x3), (0, .ref (w.1 0))]) E dX11_key_57 2 rfl (by rw [hx7]; rfl) (by decide) rfl ?_
        refine y_goto (tgt := 4) E dX11_key_60 (by decide) ?_
        refine y_lv (lv' := [(0, .ref (w.1 0)), (1, .int x3), (2, .int x7)]) [2, 1, 0] rfl ?_
        exact ih4 u6 x3 x7 hv
      intro σ l1 l2 hv
      unfold VX11_key_L4 at hv
      refine y_iload_n E dX11_key_4 2 rfl ?_
      refine y_aload_n E dX11_key_5 0 rfl ?_
      refine gf_X11_0 E (by decide) (by decide) wm_272 dX11_key_6 ?_
      refine gf_X3_5 E (by decide) (by decide) wm_286 dX11_key_9 ?_
      refine y_icmp_ge (tgt := 63) E dX11_key_12 (by decide) (fun c1 => ?_) (fun c1 => ?_)
      · replace hv := ite_t hv c1
        refine y_iload_n E dX11_key_63 1 rfl ?_
        exact y_iret E dX11_key_64 hv
      · replace hv := ite_f hv c1
        refine y_iload_n E dX11_key_15 1 rfl ?_
        refine y_aload_n E dX11_key_16 0 rfl ?_
        refine gf_X11_0 E (by decide) (by decide) wm_272 dX11_key_17 ?_
        refine gf_X3_9 (q := 6) E (by decide) (by decide) rfl wm_316 dX11_key_20 ?_
        refine y_iload_n E dX11_key_23 2 rfl ?_
        obtain ⟨hi, hv⟩ := hv
        refine y_iald E (Nat.lt_of_lt_of_le (show 6 < 11 by decide) (by decide)) (xc_harr (by decide) (by decide)) hi dX11_key_24 ?_
        refine y_iconst (v := 4) E dX11_key_25 (by decide) ?_
        refine y_icmp_eq (tgt := 33) E dX11_key_26 (by decide) (fun c2 => ?_) (fun c2 => ?_)
        · replace hv := ite_t hv c2
          refine y_iconst (v := 0) E dX11_key_33 (by decide) ?_
          refine y_lv (lv' := [(0, .ref (w.1 0)), (2, .int l2)]) [0, 2] rfl ?_
          exact hb34 σ l2 0 l1 hv
        · replace hv := ite_f hv c2
          refine y_iconst (v := 1) E dX11_key_29 (by decide) ?_
          refine y_goto (tgt := 34) E dX11_key_30 (by decide) ?_
          refine y_lv (lv' := [(0, .ref (w.1 0)), (2, .int l2)]) [0, 2] rfl ?_
          exact hb34 σ l2 1 l1 hv
  refine y_iconst (v := 0) E dX11_key_0 (by decide) ?_
  refine y_istore_n (lv' := [(1, .int 0), (0, .ref (w.1 0))]) E dX11_key_1 (by decide) rfl ?_
  refine y_iconst (v := 0) E dX11_key_2 (by decide) ?_
  refine y_istore_n (lv' := [(2, .int 0), (1, .int 0), (0, .ref (w.1 0))]) E dX11_key_3 (by decide) rfl ?_
  refine y_lv (lv' := [(0, .ref (w.1 0)), (1, .int 0), (2, .int 0)]) [2, 1, 0] rfl ?_
  obtain ⟨n0, hv⟩ := hv
  exact hL4 n0 σ 0 0 hv
theorem dX11_turn_0 : decode cX11_turn 0 = .ok (.aload_n 0, 1) := by decide +kernel
theorem dX11_turn_1 : decode cX11_turn 1 = .ok (.iload_n 1, 1) := by decide +kernel
theorem dX11_turn_2 : decode cX11_turn 2 = .ok (.invokevirtual 175, 3) := by decide +kernel
theorem dX11_turn_5 : decode cX11_turn 5 = .ok (.ifCond .ne 6, 3) := by decide +kernel
theorem dX11_turn_8 : decode cX11_turn 8 = .ok (.bipush (-5), 2) := by decide +kernel
theorem dX11_turn_10 : decode cX11_turn 10 = .ok (.ireturn, 1) := by decide +kernel
theorem dX11_turn_11 : decode cX11_turn 11 = .ok (.iload_n 2, 1) := by decide +kernel
theorem dX11_turn_12 : decode cX11_turn 12 = .ok (.invokestatic 97, 3) := by decide +kernel
theorem dX11_turn_15 : decode cX11_turn 15 = .ok (.ifCond .eq 10, 3) := by decide +kernel
theorem dX11_turn_18 : decode cX11_turn 18 = .ok (.iload_n 3, 1) := by decide +kernel
theorem dX11_turn_19 : decode cX11_turn 19 = .ok (.invokestatic 181, 3) := by decide +kernel
theorem dX11_turn_22 : decode cX11_turn 22 = .ok (.ifCond .ne 6, 3) := by decide +kernel
theorem dX11_turn_25 : decode cX11_turn 25 = .ok (.bipush (-7), 2) := by decide +kernel
theorem dX11_turn_27 : decode cX11_turn 27 = .ok (.ireturn, 1) := by decide +kernel
theorem dX11_turn_28 : decode cX11_turn 28 = .ok (.aload_n 0, 1) := by decide +kernel
theorem dX11_turn_29 : decode cX11_turn 29 = .ok (.aload_n 0, 1) := by decide +kernel
theorem dX11_turn_30 : decode cX11_turn 30 = .ok (.iload_n 1, 1) := by decide +kernel
theorem dX11_turn_31 : decode cX11_turn 31 = .ok (.invokevirtual 200, 3) := by decide +kernel
theorem dX11_turn_34 : decode cX11_turn 34 = .ok (.invokevirtual 204, 3) := by decide +kernel
theorem dX11_turn_37 : decode cX11_turn 37 = .ok (.aload_n 0, 1) := by decide +kernel
theorem dX11_turn_38 : decode cX11_turn 38 = .ok (.iload_n 2, 1) := by decide +kernel
theorem dX11_turn_39 : decode cX11_turn 39 = .ok (.invokevirtual 208, 3) := by decide +kernel
theorem dX11_turn_42 : decode cX11_turn 42 = .ok (.istore 4, 2) := by decide +kernel
theorem dX11_turn_44 : decode cX11_turn 44 = .ok (.iconst (-1), 1) := by decide +kernel
theorem dX11_turn_45 : decode cX11_turn 45 = .ok (.istore 5, 2) := by decide +kernel
theorem dX11_turn_47 : decode cX11_turn 47 = .ok (.iconst 0, 1) := by decide +kernel
theorem dX11_turn_48 : decode cX11_turn 48 = .ok (.istore 6, 2) := by decide +kernel
theorem dX11_turn_50 : decode cX11_turn 50 = .ok (.iload 6, 2) := by decide +kernel
theorem dX11_turn_52 : decode cX11_turn 52 = .ok (.bipush 20, 2) := by decide +kernel
theorem dX11_turn_54 : decode cX11_turn 54 = .ok (.if_icmp .gt 52, 3) := by decide +kernel
theorem dX11_turn_57 : decode cX11_turn 57 = .ok (.aload_n 0, 1) := by decide +kernel
theorem dX11_turn_58 : decode cX11_turn 58 = .ok (.aload_n 0, 1) := by decide +kernel
theorem dX11_turn_59 : decode cX11_turn 59 = .ok (.iload_n 1, 1) := by decide +kernel
theorem dX11_turn_60 : decode cX11_turn 60 = .ok (.invokevirtual 200, 3) := by decide +kernel
theorem dX11_turn_63 : decode cX11_turn 63 = .ok (.iload 6, 2) := by decide +kernel
theorem dX11_turn_65 : decode cX11_turn 65 = .ok (.invokevirtual 229, 3) := by decide +kernel
theorem dX11_turn_68 : decode cX11_turn 68 = .ok (.aload_n 0, 1) := by decide +kernel
theorem dX11_turn_69 : decode cX11_turn 69 = .ok (.iload_n 2, 1) := by decide +kernel
theorem dX11_turn_70 : decode cX11_turn 70 = .ok (.invokevirtual 208, 3) := by decide +kernel
theorem dX11_turn_73 : decode cX11_turn 73 = .ok (.istore 7, 2) := by decide +kernel
theorem dX11_turn_75 : decode cX11_turn 75 = .ok (.iload 7, 2) := by decide +kernel
theorem dX11_turn_77 : decode cX11_turn 77 = .ok (.ifCond .lt 23, 3) := by decide +kernel
theorem dX11_turn_80 : decode cX11_turn 80 = .ok (.iload 4, 2) := by decide +kernel
theorem dX11_turn_82 : decode cX11_turn 82 = .ok (.ifCond .lt 10, 3) := by decide +kernel
theorem dX11_turn_85 : decode cX11_turn 85 = .ok (.iload 7, 2) := by decide +kernel
theorem dX11_turn_87 : decode cX11_turn 87 = .ok (.iload 4, 2) := by decide +kernel
theorem dX11_turn_89 : decode cX11_turn 89 = .ok (.if_icmp .ge 11, 3) := by decide +kernel
theorem dX11_turn_92 : decode cX11_turn 92 = .ok (.iload 6, 2) := by decide +kernel
theorem dX11_turn_94 : decode cX11_turn 94 = .ok (.istore 5, 2) := by decide +kernel
theorem dX11_turn_96 : decode cX11_turn 96 = .ok (.iload 7, 2) := by decide +kernel
theorem dX11_turn_98 : decode cX11_turn 98 = .ok (.istore 4, 2) := by decide +kernel
theorem dX11_turn_100 : decode cX11_turn 100 = .ok (.iinc 6 1, 3) := by decide +kernel
theorem dX11_turn_103 : decode cX11_turn 103 = .ok (.goto (-53), 3) := by decide +kernel
theorem dX11_turn_106 : decode cX11_turn 106 = .ok (.iload_n 3, 1) := by decide +kernel
theorem dX11_turn_107 : decode cX11_turn 107 = .ok (.ifCond .ne 8, 3) := by decide +kernel
theorem dX11_turn_110 : decode cX11_turn 110 = .ok (.iload 5, 2) := by decide +kernel
theorem dX11_turn_112 : decode cX11_turn 112 = .ok (.goto 5, 3) := by decide +kernel
theorem dX11_turn_115 : decode cX11_turn 115 = .ok (.iload 4, 2) := by decide +kernel
theorem dX11_turn_117 : decode cX11_turn 117 = .ok (.ireturn, 1) := by decide +kernel
set_option maxRecDepth 100000 in
set_option maxHeartbeats 4000000 in
theorem kX11_turn (l : Launch) (w : wT) (hw : yOk w 55) (σ : Hp) (a1 : Int32) (a2 : Int32) (a3 : Int32) (K : Int32 → Hp → Prop) (hv : VX11_turn K σ a1 a2 a3) : yMet l w xcf 55 yX11_turn cX11_turn 8 (some .int) 6 [.ref (w.1 0), .int a1, .int a2, .int a3] σ (yQi w xcf 55 K) := by
  unfold VX11_turn at hv
  refine y_start (lv0 := [(0, .ref (w.1 0)), (1, .int a1), (2, .int a2), (3, .int a3)]) (by decide +kernel) (own := RX11) rfl hw (Nat.le_of_ble_eq_true rfl) rfl (fun p e s m below meth c A E => ?_)
  have hL50 : ∀ (n50 : Nat) (σ : Hp) (l1 : Int32) (l2 : Int32) (l3 : Int32) (l4 : Int32) (l5 : Int32) (l6 : Int32), VX11_turn_L50 K n50 σ l1 l2 l3 l4 l5 l6 → YY p l e (yRm 6) s m [.ref (w.1 0), .int a1, .int a2, .int a3].toArray below meth c w xcf 55 A (MQ below (yQi w xcf 55 K A) [.ref (w.1 0), .int a1, .int a2, .int a3].toArray s 0 0 A) 8 σ 50 [(0, .ref (w.1 0)), (1, .int l1), (2, .int l2), (3, .int l3), (4, .int l4), (5, .int l5), (6, .int l6)] [] := by
    intro n50
    induction n50 with
    | zero => exact fun _ _ _ _ _ _ _ hv => (by unfold VX11_turn_L50 at hv; exact hv.elim)
    | succ n50 ih50 =>
      have hb92 : ∀ (σ : Hp) (l1 : Int32) (l2 : Int32) (l3 : Int32) (l6 : Int32) (l7 : Int32), VX11_turn_b92 K (VX11_turn_L50 K n50) σ l1 l2 l3 l6 l7 → YY p l e (yRm 6) s m [.ref (w.1 0), .int a1, .int a2, .int a3].toArray below meth c w xcf 55 A (MQ below (yQi w xcf 55 K A) [.ref (w.1 0), .int a1, .int a2, .int a3].toArray s 0 0 A) 8 σ 92 [(0, .ref (w.1 0)), (1, .int l1), (2, .int l2), (3, .int l3), (6, .int l6), (7, .int l7)] [] := by
        intro σ l1 l2 l3 l6 l7 hv
        unfold VX11_turn_b92 at hv
        refine y_iload E dX11_turn_92 4 rfl ?_
        refine y_istore (lv' := [(5, .int l6), (0, .ref (w.1 0)), (1, .int l1), (2, .int l2), (3, .int l3), (6, .int l6), (7, .int l7)]) E dX11_turn_94 (by decide) rfl ?_
        refine y_iload E dX11_turn_96 6 rfl ?_
        refine y_istore (lv' := [(4, .int l7), (5, .int l6), (0, .ref (w.1 0)), (1, .int l1), (2, .int l2), (3, .int l3), (6, .int l6), (7, .int l7)]) E dX11_turn_98 (by decide) rfl ?_
        obtain ⟨x29, hx29⟩ : ∃ z : Int32, z = l6 + 1 := ⟨_, rfl⟩
        replace hv := hv x29 hx29
        refine y_iinc (v := x29) (lv' := [(6, .int x29), (4, .int l7), (5, .int l6), (0, .ref (w.1 0)), (1, .int l1), (2, .int l2), (3, .int l3), (7, .int l7)]) E dX11_turn_100 6 rfl (by rw [hx29]; rfl) (by decide) rfl ?_
        refine y_goto (tgt := 50) E dX11_turn_103 (by decide) ?_
        refine y_lv (lv' := [(0, .ref (w.1 0)), (1, .int l1), (2, .int l2), (3, .int l3), (4, .int l7), (5, .int l6), (6, .int x29)]) [3, 4, 5, 6, 1, 2, 0] rfl ?_
        exact ih50 σ l1 l2 l3 l7 l6 x29 hv
      intro σ l1 l2 l3 l4 l5 l6 hv
      unfold VX11_turn_L50 at hv
      refine y_iload E dX11_turn_50 6 rfl ?_
      refine y_bipush (v := 20) E dX11_turn_52 (by decide) ?_
      refine y_icmp_gt (tgt := 106) E dX11_turn_54 (by decide) (fun c16 => ?_) (fun c16 => ?_)
      · replace hv := ite_t hv c16
        refine y_iload_n E dX11_turn_106 3 rfl ?_
        refine y_if_ne (tgt := 115) E dX11_turn_107 (by decide) (fun c17 => ?_) (fun c17 => ?_)
        · replace hv := ite_f hv c17
          refine y_iload E dX11_turn_115 4 rfl ?_
          exact y_iret E dX11_turn_117 hv
        · replace hv := ite_t hv c17
          refine y_iload E dX11_turn_110 5 rfl ?_
          refine y_goto (tgt := 117) E dX11_turn_112 (by decide) ?_
          exact y_iret E dX11_turn_117 hv
      · replace hv := ite_f hv c16
        refine y_aload_n E dX11_turn_57 0 rfl ?_
        refine y_aload_n E dX11_turn_58 0 rfl ?_
        refine y_iload_n E dX11_turn_59 1 rfl ?_
        refine y_callr E (y_runV E (rest := [.ref (w.1 0)]) (kX11_lift l w E.2.2.1 σ l1 _ hv) (y_cwV 1 E.1.2.2.2.2 wm_339 wm_348 wm_349 wm_116 wm_350 (by decide +kernel) (yRm_le (by decide) (by decide))) (Nat.lt_of_lt_of_le (show 0 < 1 by decide) (by decide)) (xc_X11 (by decide) (by decide)) rfl rfl rfl (Nat.le_of_ble_eq_true rfl) dX11_turn_60) (fun v18 u19 hk => ?_)
        clear hv
        have hv := hk
        clear hk
        obtain ⟨rfl, hv⟩ := hv
        refine y_iload E dX11_turn_63 6 rfl ?_
        refine y_callv E (y_runV E (rest := []) (kX11_followTurned l w E.2.2.1 u19 49 l6 _ hv) (y_cwV 2 E.1.2.2.2.2 wm_372 wm_373 wm_374 wm_116 wm_375 (by decide +kernel) (yRm_le (by decide) (by decide))) (Nat.lt_of_lt_of_le (show 0 < 1 by decide) (by decide)) (xc_X11 (by decide) (by decide)) rfl rfl rfl (Nat.le_of_ble_eq_true rfl) dX11_turn_65) (fun u21 hk => ?_)
        clear hv
        have hv := hk
        clear hk
        refine y_aload_n E dX11_turn_68 0 rfl ?_
        refine y_iload_n E dX11_turn_69 2 rfl ?_
        refine y_calli E (y_runV E (rest := []) (kX11_firstIn l w E.2.2.1 u21 l2 _ hv) (y_cwV 1 E.1.2.2.2.2 wm_341 wm_342 wm_343 wm_116 wm_344 (by decide +kernel) (yRm_le (by decide) (by decide))) (Nat.lt_of_lt_of_le (show 0 < 1 by decide) (by decide)) (xc_X11 (by decide) (by decide)) rfl rfl rfl (Nat.le_of_ble_eq_true rfl) dX11_turn_70) (fun v22 u23 hk => ?_)
        clear hv
        have hv := hk
        clear hk
        refine y_istore (lv' := [(7, .int v22), (0, .ref (w.1 0)), (1, .int l1), (2, .int l2), (3, .int l3), (4, .int l4), (5, .int l5), (6, .int l6)]) E dX11_turn_73 (by decide) rfl ?_
        refine y_iload E dX11_turn_75 0 rfl ?_
        refine y_if_lt (tgt := 100) E dX11_turn_77 (by decide) (fun c24 => ?_) (fun c24 => ?_)
        · replace hv := ite_t hv c24
          obtain ⟨x25, hx25⟩ : ∃ z : Int32, z = l6 + 1 := ⟨_, rfl⟩
          replace hv := hv x25 hx25
          refine y_iinc (v := x25) (lv' := [(6, .int x25), (7, .int v22), (0, .ref (w.1 0)), (1, .int l1), (2, .int l2), (3, .int l3), (4, .int l4), (5, .int l5)]) E dX11_turn_100 7 rfl (by rw [hx25]; rfl) (by decide) rfl ?_
          refine y_goto (tgt := 50) E dX11_turn_103 (by decide) ?_
          refine y_lv (lv' := [(0, .ref (w.1 0)), (1, .int l1), (2, .int l2), (3, .int l3), (4, .int l4), (5, .int l5), (6, .int x25)]) [2, 3, 4, 5, 6, 7, 0] rfl ?_
          exact ih50 u23 l1 l2 l3 l4 l5 x25 hv
        · replace hv := ite_f hv c24
          refine y_iload E dX11_turn_80 5 rfl ?_
          refine y_if_lt (tgt := 92) E dX11_turn_82 (by decide) (fun c26 => ?_) (fun c26 => ?_)
          · replace hv := ite_t hv c26
            refine y_lv (lv' := [(0, .ref (w.1 0)), (1, .int l1), (2, .int l2), (3, .int l3), (6, .int l6), (7, .int v22)]) [1, 2, 3, 4, 7, 0] rfl ?_
            exact hb92 u23 l1 l2 l3 l6 v22 hv
          · replace hv := ite_f hv c26
            refine y_iload E dX11_turn_85 0 rfl ?_
            refine y_iload E dX11_turn_87 5 rfl ?_
            refine y_icmp_ge (tgt := 100) E dX11_turn_89 (by decide) (fun c27 => ?_) (fun c27 => ?_)
            · replace hv := ite_t hv c27
              obtain ⟨x28, hx28⟩ : ∃ z : Int32, z = l6 + 1 := ⟨_, rfl⟩
              replace hv := hv x28 hx28
              refine y_iinc (v := x28) (lv' := [(6, .int x28), (7, .int v22), (0, .ref (w.1 0)), (1, .int l1), (2, .int l2), (3, .int l3), (4, .int l4), (5, .int l5)]) E dX11_turn_100 7 rfl (by rw [hx28]; rfl) (by decide) rfl ?_
              refine y_goto (tgt := 50) E dX11_turn_103 (by decide) ?_
              refine y_lv (lv' := [(0, .ref (w.1 0)), (1, .int l1), (2, .int l2), (3, .int l3), (4, .int l4), (5, .int l5), (6, .int x28)]) [2, 3, 4, 5, 6, 7, 0] rfl ?_
              exact ih50 u23 l1 l2 l3 l4 l5 x28 hv
            · replace hv := ite_f hv c27
              refine y_lv (lv' := [(0, .ref (w.1 0)), (1, .int l1), (2, .int l2), (3, .int l3), (6, .int l6), (7, .int v22)]) [1, 2, 3, 4, 7, 0] rfl ?_
              exact hb92 u23 l1 l2 l3 l6 v22 hv
  refine y_aload_n E dX11_turn_0 0 rfl ?_
  refine y_iload_n E dX11_turn_1 1 rfl ?_
  refine y_calli E (y_runV E (rest := []) (kX11_isThing l w E.2.2.1 σ a1 _ hv) (y_cwV 1 E.1.2.2.2.2 wm_322 wm_323 wm_324 wm_116 wm_325 (by decide +kernel) (yRm_le (by decide) (by decide))) (Nat.lt_of_lt_of_le (show 0 < 1 by decide) (by decide)) (xc_X11 (by decide) (by decide)) rfl rfl rfl (Nat.le_of_ble_eq_true rfl) dX11_turn_2) (fun v1 u2 hk => ?_)
  clear hv
  have hv := hk
  clear hk
  refine y_if_ne (tgt := 11) E dX11_turn_5 (by decide) (fun c3 => ?_) (fun c3 => ?_)
  · replace hv := ite_f hv c3
    refine y_iload_n E dX11_turn_11 2 rfl ?_
    refine y_calli E (y_runS E (rest := []) (kX11_isCell l w E.2.2.1 u2 a2 _ hv) (y_cwS 1 E.1.2.2.2.2 wm_265 wm_270 wm_116 wm_271 (by decide +kernel) (yRm_le (by decide) (by decide))) rfl rfl (Nat.le_of_ble_eq_true rfl) dX11_turn_12) (fun v4 u5 hk => ?_)
    clear hv
    have hv := hk
    clear hk
    refine y_if_eq (tgt := 25) E dX11_turn_15 (by decide) (fun c6 => ?_) (fun c6 => ?_)
    · replace hv := ite_t hv c6
      refine y_bipush (v := (-7)) E dX11_turn_25 (by decide) ?_
      exact y_iret E dX11_turn_27 hv
    · replace hv := ite_f hv c6
      refine y_iload_n E dX11_turn_18 3 rfl ?_
      refine y_calli E (y_runS E (rest := []) (kX11_isChoice l w E.2.2.1 u5 a3 _ hv) (y_cwS 1 E.1.2.2.2.2 wm_327 wm_334 wm_116 wm_335 (by decide +kernel) (yRm_le (by decide) (by decide))) rfl rfl (Nat.le_of_ble_eq_true rfl) dX11_turn_19) (fun v7 u8 hk => ?_)
      clear hv
      have hv := hk
      clear hk
      refine y_if_ne (tgt := 28) E dX11_turn_22 (by decide) (fun c9 => ?_) (fun c9 => ?_)
      · replace hv := ite_f hv c9
        refine y_aload_n E dX11_turn_28 0 rfl ?_
        refine y_aload_n E dX11_turn_29 0 rfl ?_
        refine y_iload_n E dX11_turn_30 1 rfl ?_
        refine y_callr E (y_runV E (rest := [.ref (w.1 0)]) (kX11_lift l w E.2.2.1 u8 a1 _ hv) (y_cwV 1 E.1.2.2.2.2 wm_339 wm_348 wm_349 wm_116 wm_350 (by decide +kernel) (yRm_le (by decide) (by decide))) (Nat.lt_of_lt_of_le (show 0 < 1 by decide) (by decide)) (xc_X11 (by decide) (by decide)) rfl rfl rfl (Nat.le_of_ble_eq_true rfl) dX11_turn_31) (fun v10 u11 hk => ?_)
        clear hv
        have hv := hk
        clear hk
        obtain ⟨rfl, hv⟩ := hv
        refine y_callv E (y_runV E (rest := []) (kX11_follow l w E.2.2.1 u11 49 _ hv) (y_cwV 1 E.1.2.2.2.2 wm_340 wm_345 wm_346 wm_116 wm_347 (by decide +kernel) (yRm_le (by decide) (by decide))) (Nat.lt_of_lt_of_le (show 0 < 1 by decide) (by decide)) (xc_X11 (by decide) (by decide)) rfl rfl rfl (Nat.le_of_ble_eq_true rfl) dX11_turn_34) (fun u13 hk => ?_)
        clear hv
        have hv := hk
        clear hk
        refine y_aload_n E dX11_turn_37 0 rfl ?_
        refine y_iload_n E dX11_turn_38 2 rfl ?_
        refine y_calli E (y_runV E (rest := []) (kX11_firstIn l w E.2.2.1 u13 a2 _ hv) (y_cwV 1 E.1.2.2.2.2 wm_341 wm_342 wm_343 wm_116 wm_344 (by decide +kernel) (yRm_le (by decide) (by decide))) (Nat.lt_of_lt_of_le (show 0 < 1 by decide) (by decide)) (xc_X11 (by decide) (by decide)) rfl rfl rfl (Nat.le_of_ble_eq_true rfl) dX11_turn_39) (fun v14 u15 hk => ?_)
        clear hv
        have hv := hk
        clear hk
        refine y_istore (lv' := [(4, .int v14), (0, .ref (w.1 0)), (1, .int a1), (2, .int a2), (3, .int a3)]) E dX11_turn_42 (by decide) rfl ?_
        refine y_iconst (v := (-1)) E dX11_turn_44 (by decide) ?_
        refine y_istore (lv' := [(5, .int (-1)), (4, .int v14), (0, .ref (w.1 0)), (1, .int a1), (2, .int a2), (3, .int a3)]) E dX11_turn_45 (by decide) rfl ?_
        refine y_iconst (v := 0) E dX11_turn_47 (by decide) ?_
        refine y_istore (lv' := [(6, .int 0), (5, .int (-1)), (4, .int v14), (0, .ref (w.1 0)), (1, .int a1), (2, .int a2), (3, .int a3)]) E dX11_turn_48 (by decide) rfl ?_
        refine y_lv (lv' := [(0, .ref (w.1 0)), (1, .int a1), (2, .int a2), (3, .int a3), (4, .int v14), (5, .int (-1)), (6, .int 0)]) [3, 4, 5, 6, 2, 1, 0] rfl ?_
        obtain ⟨n0, hv⟩ := hv
        exact hL50 n0 u15 a1 a2 a3 v14 (-1) 0 hv
      · replace hv := ite_t hv c9
        refine y_bipush (v := (-7)) E dX11_turn_25 (by decide) ?_
        exact y_iret E dX11_turn_27 hv
  · replace hv := ite_t hv c3
    refine y_bipush (v := (-5)) E dX11_turn_8 (by decide) ?_
    exact y_iret E dX11_turn_10 hv
theorem dX11_caught_0 : decode cX11_caught 0 = .ok (.iconst 0, 1) := by decide +kernel
theorem dX11_caught_1 : decode cX11_caught 1 = .ok (.istore_n 3, 1) := by decide +kernel
theorem dX11_caught_2 : decode cX11_caught 2 = .ok (.iconst 0, 1) := by decide +kernel
theorem dX11_caught_3 : decode cX11_caught 3 = .ok (.istore 4, 2) := by decide +kernel
theorem dX11_caught_5 : decode cX11_caught 5 = .ok (.iload 4, 2) := by decide +kernel
theorem dX11_caught_7 : decode cX11_caught 7 = .ok (.aload_n 0, 1) := by decide +kernel
theorem dX11_caught_8 : decode cX11_caught 8 = .ok (.getfield 12, 3) := by decide +kernel
theorem dX11_caught_11 : decode cX11_caught 11 = .ok (.getfield 122, 3) := by decide +kernel
theorem dX11_caught_14 : decode cX11_caught 14 = .ok (.if_icmp .ge 56, 3) := by decide +kernel
theorem dX11_caught_17 : decode cX11_caught 17 = .ok (.aload_n 0, 1) := by decide +kernel
theorem dX11_caught_18 : decode cX11_caught 18 = .ok (.iload 4, 2) := by decide +kernel
theorem dX11_caught_20 : decode cX11_caught 20 = .ok (.invokevirtual 200, 3) := by decide +kernel
theorem dX11_caught_23 : decode cX11_caught 23 = .ok (.astore 5, 2) := by decide +kernel
theorem dX11_caught_25 : decode cX11_caught 25 = .ok (.aload 5, 2) := by decide +kernel
theorem dX11_caught_27 : decode cX11_caught 27 = .ok (.iload_n 2, 1) := by decide +kernel
theorem dX11_caught_28 : decode cX11_caught 28 = .ok (.putfield 314, 3) := by decide +kernel
theorem dX11_caught_31 : decode cX11_caught 31 = .ok (.aload 5, 2) := by decide +kernel
theorem dX11_caught_33 : decode cX11_caught 33 = .ok (.aload_n 0, 1) := by decide +kernel
theorem dX11_caught_34 : decode cX11_caught 34 = .ok (.getfield 12, 3) := by decide +kernel
theorem dX11_caught_37 : decode cX11_caught 37 = .ok (.getfield 119, 3) := by decide +kernel
theorem dX11_caught_40 : decode cX11_caught 40 = .ok (.iload_n 1, 1) := by decide +kernel
theorem dX11_caught_41 : decode cX11_caught 41 = .ok (.invokevirtual 325, 3) := by decide +kernel
theorem dX11_caught_44 : decode cX11_caught 44 = .ok (.iload_n 3, 1) := by decide +kernel
theorem dX11_caught_45 : decode cX11_caught 45 = .ok (.iload_n 2, 1) := by decide +kernel
theorem dX11_caught_46 : decode cX11_caught 46 = .ok (.aload 5, 2) := by decide +kernel
theorem dX11_caught_48 : decode cX11_caught 48 = .ok (.getfield 188, 3) := by decide +kernel
theorem dX11_caught_51 : decode cX11_caught 51 = .ok (.invokestatic 108, 3) := by decide +kernel
theorem dX11_caught_54 : decode cX11_caught 54 = .ok (.ifCond .eq 7, 3) := by decide +kernel
theorem dX11_caught_57 : decode cX11_caught 57 = .ok (.iconst 1, 1) := by decide +kernel
theorem dX11_caught_58 : decode cX11_caught 58 = .ok (.goto 4, 3) := by decide +kernel
theorem dX11_caught_61 : decode cX11_caught 61 = .ok (.iconst 0, 1) := by decide +kernel
theorem dX11_caught_62 : decode cX11_caught 62 = .ok (.iadd, 1) := by decide +kernel
theorem dX11_caught_63 : decode cX11_caught 63 = .ok (.istore_n 3, 1) := by decide +kernel
theorem dX11_caught_64 : decode cX11_caught 64 = .ok (.iinc 4 1, 3) := by decide +kernel
theorem dX11_caught_67 : decode cX11_caught 67 = .ok (.goto (-62), 3) := by decide +kernel
theorem dX11_caught_70 : decode cX11_caught 70 = .ok (.iload_n 3, 1) := by decide +kernel
theorem dX11_caught_71 : decode cX11_caught 71 = .ok (.ireturn, 1) := by decide +kernel
set_option maxRecDepth 100000 in
set_option maxHeartbeats 4000000 in
theorem kX11_caught (l : Launch) (w : wT) (hw : yOk w 55) (σ : Hp) (a1 : Int32) (a2 : Int32) (K : Int32 → Hp → Prop) (hv : VX11_caught K σ a1 a2) : yMet l w xcf 55 yX11_caught cX11_caught 6 (some .int) 5 [.ref (w.1 0), .int a1, .int a2] σ (yQi w xcf 55 K) := by
  unfold VX11_caught at hv
  refine y_start (lv0 := [(0, .ref (w.1 0)), (1, .int a1), (2, .int a2)]) (by decide +kernel) (own := RX11) rfl hw (Nat.le_of_ble_eq_true rfl) rfl (fun p e s m below meth c A E => ?_)
  have hL5 : ∀ (n5 : Nat) (σ : Hp) (l1 : Int32) (l2 : Int32) (l3 : Int32) (l4 : Int32), VX11_caught_L5 K n5 σ l1 l2 l3 l4 → YY p l e (yRm 5) s m [.ref (w.1 0), .int a1, .int a2].toArray below meth c w xcf 55 A (MQ below (yQi w xcf 55 K A) [.ref (w.1 0), .int a1, .int a2].toArray s 0 0 A) 6 σ 5 [(0, .ref (w.1 0)), (1, .int l1), (2, .int l2), (3, .int l3), (4, .int l4)] [] := by
    intro n5
    induction n5 with
    | zero => exact fun _ _ _ _ _ hv => (by unfold VX11_caught_L5 at hv; exact hv.elim)
    | succ n5 ih5 =>
      intro σ l1 l2 l3 l4 hv
      unfold VX11_caught_L5 at hv
      refine y_iload E dX11_caught_5 4 rfl ?_
      refine y_aload_n E dX11_caught_7 0 rfl ?_
      refine gf_X11_0 E (by decide) (by decide) wm_272 dX11_caught_8 ?_
      refine gf_X3_5 E (by decide) (by decide) wm_286 dX11_caught_11 ?_
      refine y_icmp_ge (tgt := 70) E dX11_caught_14 (by decide) (fun c1 => ?_) (fun c1 => ?_)
      · replace hv := ite_t hv c1
        refine y_iload_n E dX11_caught_70 3 rfl ?_
        exact y_iret E dX11_caught_71 hv
      · replace hv := ite_f hv c1
        refine y_aload_n E dX11_caught_17 0 rfl ?_
        refine y_iload E dX11_caught_18 4 rfl ?_
        refine y_callr E (y_runV E (rest := []) (kX11_lift l w E.2.2.1 σ l4 _ hv) (y_cwV 1 E.1.2.2.2.2 wm_339 wm_348 wm_349 wm_116 wm_350 (by decide +kernel) (yRm_le (by decide) (by decide))) (Nat.lt_of_lt_of_le (show 0 < 1 by decide) (by decide)) (xc_X11 (by decide) (by decide)) rfl rfl rfl (Nat.le_of_ble_eq_true rfl) dX11_caught_20) (fun v2 u3 hk => ?_)
        clear hv
        have hv := hk
        clear hk
        obtain ⟨rfl, hv⟩ := hv
        refine y_astore (lv' := [(5, .ref (w.1 49)), (0, .ref (w.1 0)), (1, .int l1), (2, .int l2), (3, .int l3), (4, .int l4)]) E dX11_caught_23 (by decide) rfl ?_
        refine y_aload E dX11_caught_25 0 rfl ?_
        refine y_iload_n E dX11_caught_27 3 rfl ?_
        refine pf_X1_3 E (by decide) (by decide) wm_459 dX11_caught_28 ?_
        refine y_nmH (fun u4 hu4 => ?_)
        replace hv := hv u4 hu4
        refine y_aload E dX11_caught_31 0 rfl ?_
        refine y_aload_n E dX11_caught_33 1 rfl ?_
        refine gf_X11_0 E (by decide) (by decide) wm_272 dX11_caught_34 ?_
        refine gf_X3_3 E (by decide) (by decide) wm_283 dX11_caught_37 ?_
        refine y_iload_n E dX11_caught_40 2 rfl ?_
        refine y_callv E (y_runV E (rest := []) (kX1_passAll l w E.2.2.1 u4 (u4 1 3) l1 _ hv) (y_cwV 2 E.1.2.2.2.2 wm_464 wm_465 wm_466 wm_98 wm_467 (by decide +kernel) (yRm_le (by decide) (by decide))) (Nat.lt_of_lt_of_le (show 49 < 50 by decide) (by decide)) (xc_X1 (by decide) (by decide)) rfl rfl rfl (Nat.le_of_ble_eq_true rfl) dX11_caught_41) (fun u6 hk => ?_)
        clear hv
        have hv := hk
        clear hk
        refine y_iload_n E dX11_caught_44 4 rfl ?_
        refine y_iload_n E dX11_caught_45 3 rfl ?_
        refine y_aload E dX11_caught_46 0 rfl ?_
        refine gf_X1_6 E (by decide) (by decide) wm_330 dX11_caught_48 ?_
        refine y_calli E (y_runS E (rest := [.int l3]) (kX11_has l w E.2.2.1 u6 l2 (u6 49 6) _ hv) (y_cwS 2 E.1.2.2.2.2 wm_274 wm_115 wm_116 wm_117 (by decide +kernel) (yRm_le (by decide) (by decide))) rfl rfl (Nat.le_of_ble_eq_true rfl) dX11_caught_51) (fun v7 u8 hk => ?_)
        clear hv
        have hv := hk
        clear hk
        refine y_if_eq (tgt := 61) E dX11_caught_54 (by decide) (fun c9 => ?_) (fun c9 => ?_)
        · replace hv := ite_t hv c9
          refine y_iconst (v := 0) E dX11_caught_61 (by decide) ?_
          refine y_iadd E dX11_caught_62 ?_
          refine y_nmi (fun x10 hx10 => ?_)
          replace hv := hv x10 hx10
          refine y_istore_n (lv' := [(3, .int x10), (5, .ref (w.1 49)), (0, .ref (w.1 0)), (1, .int l1), (2, .int l2), (4, .int l4)]) E dX11_caught_63 (by decide) rfl ?_
          obtain ⟨x11, hx11⟩ : ∃ z : Int32, z = l4 + 1 := ⟨_, rfl⟩
          replace hv := hv x11 hx11
          refine y_iinc (v := x11) (lv' := [(4, .int x11), (3, .int x10), (5, .ref (w.1 49)), (0, .ref (w.1 0)), (1, .int l1), (2, .int l2)]) E dX11_caught_64 5 rfl (by rw [hx11]; rfl) (by decide) rfl ?_
          refine y_goto (tgt := 5) E dX11_caught_67 (by decide) ?_
          refine y_lv (lv' := [(0, .ref (w.1 0)), (1, .int l1), (2, .int l2), (3, .int x10), (4, .int x11)]) [3, 4, 5, 1, 0] rfl ?_
          exact ih5 u8 l1 l2 x10 x11 hv
        · replace hv := ite_f hv c9
          refine y_iconst (v := 1) E dX11_caught_57 (by decide) ?_
          refine y_goto (tgt := 62) E dX11_caught_58 (by decide) ?_
          refine y_iadd E dX11_caught_62 ?_
          refine y_nmi (fun x12 hx12 => ?_)
          replace hv := hv x12 hx12
          refine y_istore_n (lv' := [(3, .int x12), (5, .ref (w.1 49)), (0, .ref (w.1 0)), (1, .int l1), (2, .int l2), (4, .int l4)]) E dX11_caught_63 (by decide) rfl ?_
          obtain ⟨x13, hx13⟩ : ∃ z : Int32, z = l4 + 1 := ⟨_, rfl⟩
          replace hv := hv x13 hx13
          refine y_iinc (v := x13) (lv' := [(4, .int x13), (3, .int x12), (5, .ref (w.1 49)), (0, .ref (w.1 0)), (1, .int l1), (2, .int l2)]) E dX11_caught_64 5 rfl (by rw [hx13]; rfl) (by decide) rfl ?_
          refine y_goto (tgt := 5) E dX11_caught_67 (by decide) ?_
          refine y_lv (lv' := [(0, .ref (w.1 0)), (1, .int l1), (2, .int l2), (3, .int x12), (4, .int x13)]) [3, 4, 5, 1, 0] rfl ?_
          exact ih5 u8 l1 l2 x12 x13 hv
  refine y_iconst (v := 0) E dX11_caught_0 (by decide) ?_
  refine y_istore_n (lv' := [(3, .int 0), (0, .ref (w.1 0)), (1, .int a1), (2, .int a2)]) E dX11_caught_1 (by decide) rfl ?_
  refine y_iconst (v := 0) E dX11_caught_2 (by decide) ?_
  refine y_istore (lv' := [(4, .int 0), (3, .int 0), (0, .ref (w.1 0)), (1, .int a1), (2, .int a2)]) E dX11_caught_3 (by decide) rfl ?_
  refine y_lv (lv' := [(0, .ref (w.1 0)), (1, .int a1), (2, .int a2), (3, .int 0), (4, .int 0)]) [2, 3, 4, 1, 0] rfl ?_
  obtain ⟨n0, hv⟩ := hv
  exact hL5 n0 σ a1 a2 0 0 hv
theorem dX11_net_0 : decode cX11_net 0 = .ok (.iload_n 1, 1) := by decide +kernel
theorem dX11_net_1 : decode cX11_net 1 = .ok (.invokestatic 178, 3) := by decide +kernel
theorem dX11_net_4 : decode cX11_net 4 = .ok (.ifCond .eq 10, 3) := by decide +kernel
theorem dX11_net_7 : decode cX11_net 7 = .ok (.iload_n 2, 1) := by decide +kernel
theorem dX11_net_8 : decode cX11_net 8 = .ok (.invokestatic 181, 3) := by decide +kernel
theorem dX11_net_11 : decode cX11_net 11 = .ok (.ifCond .ne 6, 3) := by decide +kernel
theorem dX11_net_14 : decode cX11_net 14 = .ok (.bipush (-2), 2) := by decide +kernel
theorem dX11_net_16 : decode cX11_net 16 = .ok (.ireturn, 1) := by decide +kernel
theorem dX11_net_17 : decode cX11_net 17 = .ok (.iconst (-1), 1) := by decide +kernel
theorem dX11_net_18 : decode cX11_net 18 = .ok (.istore_n 3, 1) := by decide +kernel
theorem dX11_net_19 : decode cX11_net 19 = .ok (.aload_n 0, 1) := by decide +kernel
theorem dX11_net_20 : decode cX11_net 20 = .ok (.iload_n 1, 1) := by decide +kernel
theorem dX11_net_21 : decode cX11_net 21 = .ok (.aload_n 0, 1) := by decide +kernel
theorem dX11_net_22 : decode cX11_net 22 = .ok (.getfield 12, 3) := by decide +kernel
theorem dX11_net_25 : decode cX11_net 25 = .ok (.getfield 128, 3) := by decide +kernel
theorem dX11_net_28 : decode cX11_net 28 = .ok (.invokevirtual 233, 3) := by decide +kernel
theorem dX11_net_31 : decode cX11_net 31 = .ok (.istore 4, 2) := by decide +kernel
theorem dX11_net_33 : decode cX11_net 33 = .ok (.iconst 0, 1) := by decide +kernel
theorem dX11_net_34 : decode cX11_net 34 = .ok (.istore 5, 2) := by decide +kernel
theorem dX11_net_36 : decode cX11_net 36 = .ok (.iload 5, 2) := by decide +kernel
theorem dX11_net_38 : decode cX11_net 38 = .ok (.bipush 30, 2) := by decide +kernel
theorem dX11_net_40 : decode cX11_net 40 = .ok (.if_icmp .ge 69, 3) := by decide +kernel
theorem dX11_net_43 : decode cX11_net 43 = .ok (.aload_n 0, 1) := by decide +kernel
theorem dX11_net_44 : decode cX11_net 44 = .ok (.iload 5, 2) := by decide +kernel
theorem dX11_net_46 : decode cX11_net 46 = .ok (.invokevirtual 158, 3) := by decide +kernel
theorem dX11_net_49 : decode cX11_net 49 = .ok (.ifCond .eq 54, 3) := by decide +kernel
theorem dX11_net_52 : decode cX11_net 52 = .ok (.aload_n 0, 1) := by decide +kernel
theorem dX11_net_53 : decode cX11_net 53 = .ok (.getfield 12, 3) := by decide +kernel
theorem dX11_net_56 : decode cX11_net 56 = .ok (.getfield 128, 3) := by decide +kernel
theorem dX11_net_59 : decode cX11_net 59 = .ok (.iload 5, 2) := by decide +kernel
theorem dX11_net_61 : decode cX11_net 61 = .ok (.invokestatic 108, 3) := by decide +kernel
theorem dX11_net_64 : decode cX11_net 64 = .ok (.ifCond .eq 6, 3) := by decide +kernel
theorem dX11_net_67 : decode cX11_net 67 = .ok (.goto 36, 3) := by decide +kernel
theorem dX11_net_70 : decode cX11_net 70 = .ok (.aload_n 0, 1) := by decide +kernel
theorem dX11_net_71 : decode cX11_net 71 = .ok (.iload_n 1, 1) := by decide +kernel
theorem dX11_net_72 : decode cX11_net 72 = .ok (.aload_n 0, 1) := by decide +kernel
theorem dX11_net_73 : decode cX11_net 73 = .ok (.getfield 12, 3) := by decide +kernel
theorem dX11_net_76 : decode cX11_net 76 = .ok (.getfield 128, 3) := by decide +kernel
theorem dX11_net_79 : decode cX11_net 79 = .ok (.iconst 1, 1) := by decide +kernel
theorem dX11_net_80 : decode cX11_net 80 = .ok (.iload 5, 2) := by decide +kernel
theorem dX11_net_82 : decode cX11_net 82 = .ok (.ishl, 1) := by decide +kernel
theorem dX11_net_83 : decode cX11_net 83 = .ok (.ior, 1) := by decide +kernel
theorem dX11_net_84 : decode cX11_net 84 = .ok (.invokevirtual 233, 3) := by decide +kernel
theorem dX11_net_87 : decode cX11_net 87 = .ok (.istore 6, 2) := by decide +kernel
theorem dX11_net_89 : decode cX11_net 89 = .ok (.iload 6, 2) := by decide +kernel
theorem dX11_net_91 : decode cX11_net 91 = .ok (.iload 4, 2) := by decide +kernel
theorem dX11_net_93 : decode cX11_net 93 = .ok (.if_icmp .le 10, 3) := by decide +kernel
theorem dX11_net_96 : decode cX11_net 96 = .ok (.iload 5, 2) := by decide +kernel
theorem dX11_net_98 : decode cX11_net 98 = .ok (.istore_n 3, 1) := by decide +kernel
theorem dX11_net_99 : decode cX11_net 99 = .ok (.iload 6, 2) := by decide +kernel
theorem dX11_net_101 : decode cX11_net 101 = .ok (.istore 4, 2) := by decide +kernel
theorem dX11_net_103 : decode cX11_net 103 = .ok (.iinc 5 1, 3) := by decide +kernel
theorem dX11_net_106 : decode cX11_net 106 = .ok (.goto (-70), 3) := by decide +kernel
theorem dX11_net_109 : decode cX11_net 109 = .ok (.iload_n 2, 1) := by decide +kernel
theorem dX11_net_110 : decode cX11_net 110 = .ok (.ifCond .ne 7, 3) := by decide +kernel
theorem dX11_net_113 : decode cX11_net 113 = .ok (.iload_n 3, 1) := by decide +kernel
theorem dX11_net_114 : decode cX11_net 114 = .ok (.goto 5, 3) := by decide +kernel
theorem dX11_net_117 : decode cX11_net 117 = .ok (.iload 4, 2) := by decide +kernel
theorem dX11_net_119 : decode cX11_net 119 = .ok (.ireturn, 1) := by decide +kernel
set_option maxRecDepth 100000 in
set_option maxHeartbeats 4000000 in
theorem kX11_net (l : Launch) (w : wT) (hw : yOk w 55) (σ : Hp) (a1 : Int32) (a2 : Int32) (K : Int32 → Hp → Prop) (hv : VX11_net K σ a1 a2) : yMet l w xcf 55 yX11_net cX11_net 7 (some .int) 6 [.ref (w.1 0), .int a1, .int a2] σ (yQi w xcf 55 K) := by
  unfold VX11_net at hv
  refine y_start (lv0 := [(0, .ref (w.1 0)), (1, .int a1), (2, .int a2)]) (by decide +kernel) (own := RX11) rfl hw (Nat.le_of_ble_eq_true rfl) rfl (fun p e s m below meth c A E => ?_)
  have hL36 : ∀ (n36 : Nat) (σ : Hp) (l1 : Int32) (l2 : Int32) (l3 : Int32) (l4 : Int32) (l5 : Int32), VX11_net_L36 K n36 σ l1 l2 l3 l4 l5 → YY p l e (yRm 6) s m [.ref (w.1 0), .int a1, .int a2].toArray below meth c w xcf 55 A (MQ below (yQi w xcf 55 K A) [.ref (w.1 0), .int a1, .int a2].toArray s 0 0 A) 7 σ 36 [(0, .ref (w.1 0)), (1, .int l1), (2, .int l2), (3, .int l3), (4, .int l4), (5, .int l5)] [] := by
    intro n36
    induction n36 with
    | zero => exact fun _ _ _ _ _ _ hv => (by unfold VX11_net_L36 at hv; exact hv.elim)
    | succ n36 ih36 =>
      intro σ l1 l2 l3 l4 l5 hv
      unfold VX11_net_L36 at hv
      refine y_iload E dX11_net_36 5 rfl ?_
      refine y_bipush (v := 30) E dX11_net_38 (by decide) ?_
      refine y_icmp_ge (tgt := 109) E dX11_net_40 (by decide) (fun c9 => ?_) (fun c9 => ?_)
      · replace hv := ite_t hv c9
        refine y_iload_n E dX11_net_109 2 rfl ?_
        refine y_if_ne (tgt := 117) E dX11_net_110 (by decide) (fun c10 => ?_) (fun c10 => ?_)
        · replace hv := ite_f hv c10
          refine y_iload E dX11_net_117 4 rfl ?_
          exact y_iret E dX11_net_119 hv
        · replace hv := ite_t hv c10
          refine y_iload_n E dX11_net_113 3 rfl ?_
          refine y_goto (tgt := 119) E dX11_net_114 (by decide) ?_
          exact y_iret E dX11_net_119 hv
      · replace hv := ite_f hv c9
        refine y_aload_n E dX11_net_43 0 rfl ?_
        refine y_iload E dX11_net_44 5 rfl ?_
        refine y_calli E (y_runV E (rest := []) (kX11_isOpen l w E.2.2.1 σ l5 _ hv) (y_cwV 1 E.1.2.2.2.2 wm_311 wm_319 wm_320 wm_116 wm_321 (by decide +kernel) (yRm_le (by decide) (by decide))) (Nat.lt_of_lt_of_le (show 0 < 1 by decide) (by decide)) (xc_X11 (by decide) (by decide)) rfl rfl rfl (Nat.le_of_ble_eq_true rfl) dX11_net_46) (fun v11 u12 hk => ?_)
        clear hv
        have hv := hk
        clear hk
        refine y_if_eq (tgt := 103) E dX11_net_49 (by decide) (fun c13 => ?_) (fun c13 => ?_)
        · replace hv := ite_t hv c13
          obtain ⟨x14, hx14⟩ : ∃ z : Int32, z = l5 + 1 := ⟨_, rfl⟩
          replace hv := hv x14 hx14
          refine y_iinc (v := x14) (lv' := [(5, .int x14), (0, .ref (w.1 0)), (1, .int l1), (2, .int l2), (3, .int l3), (4, .int l4)]) E dX11_net_103 5 rfl (by rw [hx14]; rfl) (by decide) rfl ?_
          refine y_goto (tgt := 36) E dX11_net_106 (by decide) ?_
          refine y_lv (lv' := [(0, .ref (w.1 0)), (1, .int l1), (2, .int l2), (3, .int l3), (4, .int l4), (5, .int x14)]) [1, 2, 3, 4, 5, 0] rfl ?_
          exact ih36 u12 l1 l2 l3 l4 x14 hv
        · replace hv := ite_f hv c13
          refine y_aload_n E dX11_net_52 0 rfl ?_
          refine gf_X11_0 E (by decide) (by decide) wm_272 dX11_net_53 ?_
          refine gf_X3_1 E (by decide) (by decide) wm_288 dX11_net_56 ?_
          refine y_iload E dX11_net_59 5 rfl ?_
          refine y_calli E (y_runS E (rest := []) (kX11_has l w E.2.2.1 u12 (u12 1 1) l5 _ hv) (y_cwS 2 E.1.2.2.2.2 wm_274 wm_115 wm_116 wm_117 (by decide +kernel) (yRm_le (by decide) (by decide))) rfl rfl (Nat.le_of_ble_eq_true rfl) dX11_net_61) (fun v15 u16 hk => ?_)
          clear hv
          have hv := hk
          clear hk
          refine y_if_eq (tgt := 70) E dX11_net_64 (by decide) (fun c17 => ?_) (fun c17 => ?_)
          · replace hv := ite_t hv c17
            refine y_aload_n E dX11_net_70 0 rfl ?_
            refine y_iload_n E dX11_net_71 1 rfl ?_
            refine y_aload_n E dX11_net_72 0 rfl ?_
            refine gf_X11_0 E (by decide) (by decide) wm_272 dX11_net_73 ?_
            refine gf_X3_1 E (by decide) (by decide) wm_288 dX11_net_76 ?_
            refine y_iconst (v := 1) E dX11_net_79 (by decide) ?_
            refine y_iload E dX11_net_80 5 rfl ?_
            refine y_ishl E dX11_net_82 ?_
            refine y_ior E dX11_net_83 ?_
            refine y_calli E (y_runV E (rest := []) (kX11_caught l w E.2.2.1 u16 l1 ((u16 1 1) ||| (1 <<< (l5 &&& 31))) _ hv) (y_cwV 2 E.1.2.2.2.2 wm_376 wm_377 wm_378 wm_116 wm_379 (by decide +kernel) (yRm_le (by decide) (by decide))) (Nat.lt_of_lt_of_le (show 0 < 1 by decide) (by decide)) (xc_X11 (by decide) (by decide)) rfl rfl rfl (Nat.le_of_ble_eq_true rfl) dX11_net_84) (fun v18 u19 hk => ?_)
            clear hv
            have hv := hk
            clear hk
            refine y_istore (lv' := [(6, .int v18), (0, .ref (w.1 0)), (1, .int l1), (2, .int l2), (3, .int l3), (4, .int l4), (5, .int l5)]) E dX11_net_87 (by decide) rfl ?_
            refine y_iload E dX11_net_89 0 rfl ?_
            refine y_iload E dX11_net_91 5 rfl ?_
            refine y_icmp_le (tgt := 103) E dX11_net_93 (by decide) (fun c20 => ?_) (fun c20 => ?_)
            · replace hv := ite_t hv c20
              obtain ⟨x21, hx21⟩ : ∃ z : Int32, z = l5 + 1 := ⟨_, rfl⟩
              replace hv := hv x21 hx21
              refine y_iinc (v := x21) (lv' := [(5, .int x21), (6, .int v18), (0, .ref (w.1 0)), (1, .int l1), (2, .int l2), (3, .int l3), (4, .int l4)]) E dX11_net_103 6 rfl (by rw [hx21]; rfl) (by decide) rfl ?_
              refine y_goto (tgt := 36) E dX11_net_106 (by decide) ?_
              refine y_lv (lv' := [(0, .ref (w.1 0)), (1, .int l1), (2, .int l2), (3, .int l3), (4, .int l4), (5, .int x21)]) [2, 3, 4, 5, 6, 0] rfl ?_
              exact ih36 u19 l1 l2 l3 l4 x21 hv
            · replace hv := ite_f hv c20
              refine y_iload E dX11_net_96 6 rfl ?_
              refine y_istore_n (lv' := [(3, .int l5), (6, .int v18), (0, .ref (w.1 0)), (1, .int l1), (2, .int l2), (4, .int l4), (5, .int l5)]) E dX11_net_98 (by decide) rfl ?_
              refine y_iload E dX11_net_99 1 rfl ?_
              refine y_istore (lv' := [(4, .int v18), (3, .int l5), (6, .int v18), (0, .ref (w.1 0)), (1, .int l1), (2, .int l2), (5, .int l5)]) E dX11_net_101 (by decide) rfl ?_
              obtain ⟨x22, hx22⟩ : ∃ z : Int32, z = l5 + 1 := ⟨_, rfl⟩
              replace hv := hv x22 hx22
              refine y_iinc (v := x22) (lv' := [(5, .int x22), (4, .int v18), (3, .int l5), (6, .int v18), (0, .ref (w.1 0)), (1, .int l1), (2, .int l2)]) E dX11_net_103 6 rfl (by rw [hx22]; rfl) (by decide) rfl ?_
              refine y_goto (tgt := 36) E dX11_net_106 (by decide) ?_
              refine y_lv (lv' := [(0, .ref (w.1 0)), (1, .int l1), (2, .int l2), (3, .int l5), (4, .int v18), (5, .int x22)]) [4, 5, 6, 2, 1, 0] rfl ?_
              exact ih36 u19 l1 l2 l5 v18 x22 hv
          · replace hv := ite_f hv c17
            refine y_goto (tgt := 103) E dX11_net_67 (by decide) ?_
            obtain ⟨x23, hx23⟩ : ∃ z : Int32, z = l5 + 1 := ⟨_, rfl⟩
            replace hv := hv x23 hx23
            refine y_iinc (v := x23) (lv' := [(5, .int x23), (0, .ref (w.1 0)), (1, .int l1), (2, .int l2), (3, .int l3), (4, .int l4)]) E dX11_net_103 5 rfl (by rw [hx23]; rfl) (by decide) rfl ?_
            refine y_goto (tgt := 36) E dX11_net_106 (by decide) ?_
            refine y_lv (lv' := [(0, .ref (w.1 0)), (1, .int l1), (2, .int l2), (3, .int l3), (4, .int l4), (5, .int x23)]) [1, 2, 3, 4, 5, 0] rfl ?_
            exact ih36 u16 l1 l2 l3 l4 x23 hv
  refine y_iload_n E dX11_net_0 1 rfl ?_
  refine y_calli E (y_runS E (rest := []) (kX11_isBehind l w E.2.2.1 σ a1 _ hv) (y_cwS 1 E.1.2.2.2.2 wm_326 wm_336 wm_116 wm_337 (by decide +kernel) (yRm_le (by decide) (by decide))) rfl rfl (Nat.le_of_ble_eq_true rfl) dX11_net_1) (fun v1 u2 hk => ?_)
  clear hv
  have hv := hk
  clear hk
  refine y_if_eq (tgt := 14) E dX11_net_4 (by decide) (fun c3 => ?_) (fun c3 => ?_)
  · replace hv := ite_t hv c3
    refine y_bipush (v := (-2)) E dX11_net_14 (by decide) ?_
    exact y_iret E dX11_net_16 hv
  · replace hv := ite_f hv c3
    refine y_iload_n E dX11_net_7 2 rfl ?_
    refine y_calli E (y_runS E (rest := []) (kX11_isChoice l w E.2.2.1 u2 a2 _ hv) (y_cwS 1 E.1.2.2.2.2 wm_327 wm_334 wm_116 wm_335 (by decide +kernel) (yRm_le (by decide) (by decide))) rfl rfl (Nat.le_of_ble_eq_true rfl) dX11_net_8) (fun v4 u5 hk => ?_)
    clear hv
    have hv := hk
    clear hk
    refine y_if_ne (tgt := 17) E dX11_net_11 (by decide) (fun c6 => ?_) (fun c6 => ?_)
    · replace hv := ite_f hv c6
      refine y_iconst (v := (-1)) E dX11_net_17 (by decide) ?_
      refine y_istore_n (lv' := [(3, .int (-1)), (0, .ref (w.1 0)), (1, .int a1), (2, .int a2)]) E dX11_net_18 (by decide) rfl ?_
      refine y_aload_n E dX11_net_19 1 rfl ?_
      refine y_iload_n E dX11_net_20 2 rfl ?_
      refine y_aload_n E dX11_net_21 1 rfl ?_
      refine gf_X11_0 E (by decide) (by decide) wm_272 dX11_net_22 ?_
      refine gf_X3_1 E (by decide) (by decide) wm_288 dX11_net_25 ?_
      refine y_calli E (y_runV E (rest := []) (kX11_caught l w E.2.2.1 u5 a1 (u5 1 1) _ hv) (y_cwV 2 E.1.2.2.2.2 wm_376 wm_377 wm_378 wm_116 wm_379 (by decide +kernel) (yRm_le (by decide) (by decide))) (Nat.lt_of_lt_of_le (show 0 < 1 by decide) (by decide)) (xc_X11 (by decide) (by decide)) rfl rfl rfl (Nat.le_of_ble_eq_true rfl) dX11_net_28) (fun v7 u8 hk => ?_)
      clear hv
      have hv := hk
      clear hk
      refine y_istore (lv' := [(4, .int v7), (3, .int (-1)), (0, .ref (w.1 0)), (1, .int a1), (2, .int a2)]) E dX11_net_31 (by decide) rfl ?_
      refine y_iconst (v := 0) E dX11_net_33 (by decide) ?_
      refine y_istore (lv' := [(5, .int 0), (4, .int v7), (3, .int (-1)), (0, .ref (w.1 0)), (1, .int a1), (2, .int a2)]) E dX11_net_34 (by decide) rfl ?_
      refine y_lv (lv' := [(0, .ref (w.1 0)), (1, .int a1), (2, .int a2), (3, .int (-1)), (4, .int v7), (5, .int 0)]) [3, 4, 5, 2, 1, 0] rfl ?_
      obtain ⟨n0, hv⟩ := hv
      exact hL36 n0 u8 a1 a2 (-1) v7 0 hv
    · replace hv := ite_t hv c6
      refine y_bipush (v := (-2)) E dX11_net_14 (by decide) ?_
      exact y_iret E dX11_net_16 hv
theorem dX11_endOf_0 : decode cX11_endOf 0 = .ok (.aload_n 0, 1) := by decide +kernel
theorem dX11_endOf_1 : decode cX11_endOf 1 = .ok (.iload_n 1, 1) := by decide +kernel
theorem dX11_endOf_2 : decode cX11_endOf 2 = .ok (.iload_n 2, 1) := by decide +kernel
theorem dX11_endOf_3 : decode cX11_endOf 3 = .ok (.invokevirtual 223, 3) := by decide +kernel
theorem dX11_endOf_6 : decode cX11_endOf 6 = .ok (.astore 4, 2) := by decide +kernel
theorem dX11_endOf_8 : decode cX11_endOf 8 = .ok (.aload 4, 2) := by decide +kernel
theorem dX11_endOf_10 : decode cX11_endOf 10 = .ok (.aload_n 0, 1) := by decide +kernel
theorem dX11_endOf_11 : decode cX11_endOf 11 = .ok (.getfield 12, 3) := by decide +kernel
theorem dX11_endOf_14 : decode cX11_endOf 14 = .ok (.getfield 119, 3) := by decide +kernel
theorem dX11_endOf_17 : decode cX11_endOf 17 = .ok (.iload_n 3, 1) := by decide +kernel
theorem dX11_endOf_18 : decode cX11_endOf 18 = .ok (.invokevirtual 325, 3) := by decide +kernel
theorem dX11_endOf_21 : decode cX11_endOf 21 = .ok (.aload 4, 2) := by decide +kernel
theorem dX11_endOf_23 : decode cX11_endOf 23 = .ok (.getfield 188, 3) := by decide +kernel
theorem dX11_endOf_26 : decode cX11_endOf 26 = .ok (.ireturn, 1) := by decide +kernel
set_option maxRecDepth 100000 in
set_option maxHeartbeats 4000000 in
theorem kX11_endOf (l : Launch) (w : wT) (hw : yOk w 55) (σ : Hp) (a1 : Int32) (a2 : Int32) (a3 : Int32) (K : Int32 → Hp → Prop) (hv : VX11_endOf K σ a1 a2 a3) : yMet l w xcf 55 yX11_endOf cX11_endOf 5 (some .int) 5 [.ref (w.1 0), .int a1, .int a2, .int a3] σ (yQi w xcf 55 K) := by
  unfold VX11_endOf at hv
  refine y_start (lv0 := [(0, .ref (w.1 0)), (1, .int a1), (2, .int a2), (3, .int a3)]) (by decide +kernel) (own := RX11) rfl hw (Nat.le_of_ble_eq_true rfl) rfl (fun p e s m below meth c A E => ?_)
  refine y_aload_n E dX11_endOf_0 0 rfl ?_
  refine y_iload_n E dX11_endOf_1 1 rfl ?_
  refine y_iload_n E dX11_endOf_2 2 rfl ?_
  refine y_callr E (y_runV E (rest := []) (kX11_letGo l w E.2.2.1 σ a1 a2 _ hv) (y_cwV 2 E.1.2.2.2.2 wm_365 wm_366 wm_367 wm_116 wm_368 (by decide +kernel) (yRm_le (by decide) (by decide))) (Nat.lt_of_lt_of_le (show 0 < 1 by decide) (by decide)) (xc_X11 (by decide) (by decide)) rfl rfl rfl (Nat.le_of_ble_eq_true rfl) dX11_endOf_3) (fun v1 u2 hk => ?_)
  clear hv
  have hv := hk
  clear hk
  obtain ⟨rfl, hv⟩ := hv
  refine y_astore (lv' := [(4, .ref (w.1 49)), (0, .ref (w.1 0)), (1, .int a1), (2, .int a2), (3, .int a3)]) E dX11_endOf_6 (by decide) rfl ?_
  refine y_aload E dX11_endOf_8 0 rfl ?_
  refine y_aload_n E dX11_endOf_10 1 rfl ?_
  refine gf_X11_0 E (by decide) (by decide) wm_272 dX11_endOf_11 ?_
  refine gf_X3_3 E (by decide) (by decide) wm_283 dX11_endOf_14 ?_
  refine y_iload_n E dX11_endOf_17 4 rfl ?_
  refine y_callv E (y_runV E (rest := []) (kX1_passAll l w E.2.2.1 u2 (u2 1 3) a3 _ hv) (y_cwV 2 E.1.2.2.2.2 wm_464 wm_465 wm_466 wm_98 wm_467 (by decide +kernel) (yRm_le (by decide) (by decide))) (Nat.lt_of_lt_of_le (show 49 < 50 by decide) (by decide)) (xc_X1 (by decide) (by decide)) rfl rfl rfl (Nat.le_of_ble_eq_true rfl) dX11_endOf_18) (fun u4 hk => ?_)
  clear hv
  have hv := hk
  clear hk
  refine y_aload E dX11_endOf_21 0 rfl ?_
  refine gf_X1_6 E (by decide) (by decide) wm_330 dX11_endOf_23 ?_
  exact y_iret E dX11_endOf_26 hv
theorem dX11_can_0 : decode cX11_can 0 = .ok (.aload_n 0, 1) := by decide +kernel
theorem dX11_can_1 : decode cX11_can 1 = .ok (.iload_n 1, 1) := by decide +kernel
theorem dX11_can_2 : decode cX11_can 2 = .ok (.invokevirtual 175, 3) := by decide +kernel
theorem dX11_can_5 : decode cX11_can 5 = .ok (.ifCond .ne 6, 3) := by decide +kernel
theorem dX11_can_8 : decode cX11_can 8 = .ok (.bipush (-5), 2) := by decide +kernel
theorem dX11_can_10 : decode cX11_can 10 = .ok (.ireturn, 1) := by decide +kernel
theorem dX11_can_11 : decode cX11_can 11 = .ok (.iload_n 2, 1) := by decide +kernel
theorem dX11_can_12 : decode cX11_can 12 = .ok (.invokestatic 178, 3) := by decide +kernel
theorem dX11_can_15 : decode cX11_can 15 = .ok (.ifCond .ne 6, 3) := by decide +kernel
theorem dX11_can_18 : decode cX11_can 18 = .ok (.bipush (-7), 2) := by decide +kernel
theorem dX11_can_20 : decode cX11_can 20 = .ok (.ireturn, 1) := by decide +kernel
theorem dX11_can_21 : decode cX11_can 21 = .ok (.iconst 0, 1) := by decide +kernel
theorem dX11_can_22 : decode cX11_can 22 = .ok (.istore_n 3, 1) := by decide +kernel
theorem dX11_can_23 : decode cX11_can 23 = .ok (.iconst 0, 1) := by decide +kernel
theorem dX11_can_24 : decode cX11_can 24 = .ok (.istore 4, 2) := by decide +kernel
theorem dX11_can_26 : decode cX11_can 26 = .ok (.iload 4, 2) := by decide +kernel
theorem dX11_can_28 : decode cX11_can 28 = .ok (.iconst 5, 1) := by decide +kernel
theorem dX11_can_29 : decode cX11_can 29 = .ok (.if_icmp .ge 22, 3) := by decide +kernel
theorem dX11_can_32 : decode cX11_can 32 = .ok (.iload_n 3, 1) := by decide +kernel
theorem dX11_can_33 : decode cX11_can 33 = .ok (.iconst 1, 1) := by decide +kernel
theorem dX11_can_34 : decode cX11_can 34 = .ok (.aload_n 0, 1) := by decide +kernel
theorem dX11_can_35 : decode cX11_can 35 = .ok (.iload_n 1, 1) := by decide +kernel
theorem dX11_can_36 : decode cX11_can 36 = .ok (.iload 4, 2) := by decide +kernel
theorem dX11_can_38 : decode cX11_can 38 = .ok (.iload_n 2, 1) := by decide +kernel
theorem dX11_can_39 : decode cX11_can 39 = .ok (.invokevirtual 236, 3) := by decide +kernel
theorem dX11_can_42 : decode cX11_can 42 = .ok (.ishl, 1) := by decide +kernel
theorem dX11_can_43 : decode cX11_can 43 = .ok (.ior, 1) := by decide +kernel
theorem dX11_can_44 : decode cX11_can 44 = .ok (.istore_n 3, 1) := by decide +kernel
theorem dX11_can_45 : decode cX11_can 45 = .ok (.iinc 4 1, 3) := by decide +kernel
theorem dX11_can_48 : decode cX11_can 48 = .ok (.goto (-22), 3) := by decide +kernel
theorem dX11_can_51 : decode cX11_can 51 = .ok (.iload_n 3, 1) := by decide +kernel
theorem dX11_can_52 : decode cX11_can 52 = .ok (.ireturn, 1) := by decide +kernel
set_option maxRecDepth 100000 in
set_option maxHeartbeats 4000000 in
theorem kX11_can (l : Launch) (w : wT) (hw : yOk w 55) (σ : Hp) (a1 : Int32) (a2 : Int32) (K : Int32 → Hp → Prop) (hv : VX11_can K σ a1 a2) : yMet l w xcf 55 yX11_can cX11_can 5 (some .int) 6 [.ref (w.1 0), .int a1, .int a2] σ (yQi w xcf 55 K) := by
  unfold VX11_can at hv
  refine y_start (lv0 := [(0, .ref (w.1 0)), (1, .int a1), (2, .int a2)]) (by decide +kernel) (own := RX11) rfl hw (Nat.le_of_ble_eq_true rfl) rfl (fun p e s m below meth c A E => ?_)
  have hL26 : ∀ (n26 : Nat) (σ : Hp) (l1 : Int32) (l2 : Int32) (l3 : Int32) (l4 : Int32), VX11_can_L26 K n26 σ l1 l2 l3 l4 → YY p l e (yRm 6) s m [.ref (w.1 0), .int a1, .int a2].toArray below meth c w xcf 55 A (MQ below (yQi w xcf 55 K A) [.ref (w.1 0), .int a1, .int a2].toArray s 0 0 A) 5 σ 26 [(0, .ref (w.1 0)), (1, .int l1), (2, .int l2), (3, .int l3), (4, .int l4)] [] := by
    intro n26
    induction n26 with
    | zero => exact fun _ _ _ _ _ hv => (by unfold VX11_can_L26 at hv; exact hv.elim)
    | succ n26 ih26 =>
      intro σ l1 l2 l3 l4 hv
      unfold VX11_can_L26 at hv
      refine y_iload E dX11_can_26 4 rfl ?_
      refine y_iconst (v := 5) E dX11_can_28 (by decide) ?_
      refine y_icmp_ge (tgt := 51) E dX11_can_29 (by decide) (fun c7 => ?_) (fun c7 => ?_)
      · replace hv := ite_t hv c7
        refine y_iload_n E dX11_can_51 3 rfl ?_
        exact y_iret E dX11_can_52 hv
      · replace hv := ite_f hv c7
        refine y_iload_n E dX11_can_32 3 rfl ?_
        refine y_iconst (v := 1) E dX11_can_33 (by decide) ?_
        refine y_aload_n E dX11_can_34 0 rfl ?_
        refine y_iload_n E dX11_can_35 1 rfl ?_
        refine y_iload E dX11_can_36 4 rfl ?_
        refine y_iload_n E dX11_can_38 2 rfl ?_
        refine y_calli E (y_runV E (rest := [.int 1, .int l3]) (kX11_endOf l w E.2.2.1 σ l1 l4 l2 _ hv) (y_cwV 3 E.1.2.2.2.2 wm_380 wm_381 wm_382 wm_116 wm_383 (by decide +kernel) (yRm_le (by decide) (by decide))) (Nat.lt_of_lt_of_le (show 0 < 1 by decide) (by decide)) (xc_X11 (by decide) (by decide)) rfl rfl rfl (Nat.le_of_ble_eq_true rfl) dX11_can_39) (fun v8 u9 hk => ?_)
        clear hv
        have hv := hk
        clear hk
        refine y_ishl E dX11_can_42 ?_
        refine y_ior E dX11_can_43 ?_
        refine y_nmi (fun x10 hx10 => ?_)
        replace hv := hv x10 hx10
        refine y_istore_n (lv' := [(3, .int x10), (0, .ref (w.1 0)), (1, .int l1), (2, .int l2), (4, .int l4)]) E dX11_can_44 (by decide) rfl ?_
        obtain ⟨x11, hx11⟩ : ∃ z : Int32, z = l4 + 1 := ⟨_, rfl⟩
        replace hv := hv x11 hx11
        refine y_iinc (v := x11) (lv' := [(4, .int x11), (3, .int x10), (0, .ref (w.1 0)), (1, .int l1), (2, .int l2)]) E dX11_can_45 4 rfl (by rw [hx11]; rfl) (by decide) rfl ?_
        refine y_goto (tgt := 26) E dX11_can_48 (by decide) ?_
        refine y_lv (lv' := [(0, .ref (w.1 0)), (1, .int l1), (2, .int l2), (3, .int x10), (4, .int x11)]) [2, 3, 4, 1, 0] rfl ?_
        exact ih26 u9 l1 l2 x10 x11 hv
  refine y_aload_n E dX11_can_0 0 rfl ?_
  refine y_iload_n E dX11_can_1 1 rfl ?_
  refine y_calli E (y_runV E (rest := []) (kX11_isThing l w E.2.2.1 σ a1 _ hv) (y_cwV 1 E.1.2.2.2.2 wm_322 wm_323 wm_324 wm_116 wm_325 (by decide +kernel) (yRm_le (by decide) (by decide))) (Nat.lt_of_lt_of_le (show 0 < 1 by decide) (by decide)) (xc_X11 (by decide) (by decide)) rfl rfl rfl (Nat.le_of_ble_eq_true rfl) dX11_can_2) (fun v1 u2 hk => ?_)
  clear hv
  have hv := hk
  clear hk
  refine y_if_ne (tgt := 11) E dX11_can_5 (by decide) (fun c3 => ?_) (fun c3 => ?_)
  · replace hv := ite_f hv c3
    refine y_iload_n E dX11_can_11 2 rfl ?_
    refine y_calli E (y_runS E (rest := []) (kX11_isBehind l w E.2.2.1 u2 a2 _ hv) (y_cwS 1 E.1.2.2.2.2 wm_326 wm_336 wm_116 wm_337 (by decide +kernel) (yRm_le (by decide) (by decide))) rfl rfl (Nat.le_of_ble_eq_true rfl) dX11_can_12) (fun v4 u5 hk => ?_)
    clear hv
    have hv := hk
    clear hk
    refine y_if_ne (tgt := 21) E dX11_can_15 (by decide) (fun c6 => ?_) (fun c6 => ?_)
    · replace hv := ite_f hv c6
      refine y_iconst (v := 0) E dX11_can_21 (by decide) ?_
      refine y_istore_n (lv' := [(3, .int 0), (0, .ref (w.1 0)), (1, .int a1), (2, .int a2)]) E dX11_can_22 (by decide) rfl ?_
      refine y_iconst (v := 0) E dX11_can_23 (by decide) ?_
      refine y_istore (lv' := [(4, .int 0), (3, .int 0), (0, .ref (w.1 0)), (1, .int a1), (2, .int a2)]) E dX11_can_24 (by decide) rfl ?_
      refine y_lv (lv' := [(0, .ref (w.1 0)), (1, .int a1), (2, .int a2), (3, .int 0), (4, .int 0)]) [2, 3, 4, 1, 0] rfl ?_
      obtain ⟨n0, hv⟩ := hv
      exact hL26 n0 u5 a1 a2 0 0 hv
    · replace hv := ite_t hv c6
      refine y_bipush (v := (-7)) E dX11_can_18 (by decide) ?_
      exact y_iret E dX11_can_20 hv
  · replace hv := ite_t hv c3
    refine y_bipush (v := (-5)) E dX11_can_8 (by decide) ?_
    exact y_iret E dX11_can_10 hv
theorem dX11_tallyEnds_0 : decode cX11_tallyEnds 0 = .ok (.iconst 0, 1) := by decide +kernel
theorem dX11_tallyEnds_1 : decode cX11_tallyEnds 1 = .ok (.istore_n 3, 1) := by decide +kernel
theorem dX11_tallyEnds_2 : decode cX11_tallyEnds 2 = .ok (.iload_n 3, 1) := by decide +kernel
theorem dX11_tallyEnds_3 : decode cX11_tallyEnds 3 = .ok (.bipush 30, 2) := by decide +kernel
theorem dX11_tallyEnds_5 : decode cX11_tallyEnds 5 = .ok (.if_icmp .ge 16, 3) := by decide +kernel
theorem dX11_tallyEnds_8 : decode cX11_tallyEnds 8 = .ok (.aload_n 0, 1) := by decide +kernel
theorem dX11_tallyEnds_9 : decode cX11_tallyEnds 9 = .ok (.getfield 66, 3) := by decide +kernel
theorem dX11_tallyEnds_12 : decode cX11_tallyEnds 12 = .ok (.iload_n 3, 1) := by decide +kernel
theorem dX11_tallyEnds_13 : decode cX11_tallyEnds 13 = .ok (.iconst 0, 1) := by decide +kernel
theorem dX11_tallyEnds_14 : decode cX11_tallyEnds 14 = .ok (.iastore, 1) := by decide +kernel
theorem dX11_tallyEnds_15 : decode cX11_tallyEnds 15 = .ok (.iinc 3 1, 3) := by decide +kernel
theorem dX11_tallyEnds_18 : decode cX11_tallyEnds 18 = .ok (.goto (-16), 3) := by decide +kernel
theorem dX11_tallyEnds_21 : decode cX11_tallyEnds 21 = .ok (.iconst 0, 1) := by decide +kernel
theorem dX11_tallyEnds_22 : decode cX11_tallyEnds 22 = .ok (.istore_n 3, 1) := by decide +kernel
theorem dX11_tallyEnds_23 : decode cX11_tallyEnds 23 = .ok (.iload_n 3, 1) := by decide +kernel
theorem dX11_tallyEnds_24 : decode cX11_tallyEnds 24 = .ok (.iconst 5, 1) := by decide +kernel
theorem dX11_tallyEnds_25 : decode cX11_tallyEnds 25 = .ok (.if_icmp .ge 25, 3) := by decide +kernel
theorem dX11_tallyEnds_28 : decode cX11_tallyEnds 28 = .ok (.aload_n 0, 1) := by decide +kernel
theorem dX11_tallyEnds_29 : decode cX11_tallyEnds 29 = .ok (.getfield 66, 3) := by decide +kernel
theorem dX11_tallyEnds_32 : decode cX11_tallyEnds 32 = .ok (.aload_n 0, 1) := by decide +kernel
theorem dX11_tallyEnds_33 : decode cX11_tallyEnds 33 = .ok (.iload_n 1, 1) := by decide +kernel
theorem dX11_tallyEnds_34 : decode cX11_tallyEnds 34 = .ok (.iload_n 3, 1) := by decide +kernel
theorem dX11_tallyEnds_35 : decode cX11_tallyEnds 35 = .ok (.iload_n 2, 1) := by decide +kernel
theorem dX11_tallyEnds_36 : decode cX11_tallyEnds 36 = .ok (.invokevirtual 236, 3) := by decide +kernel
theorem dX11_tallyEnds_39 : decode cX11_tallyEnds 39 = .ok (.dup2, 1) := by decide +kernel
theorem dX11_tallyEnds_40 : decode cX11_tallyEnds 40 = .ok (.iaload, 1) := by decide +kernel
theorem dX11_tallyEnds_41 : decode cX11_tallyEnds 41 = .ok (.iconst 1, 1) := by decide +kernel
theorem dX11_tallyEnds_42 : decode cX11_tallyEnds 42 = .ok (.iadd, 1) := by decide +kernel
theorem dX11_tallyEnds_43 : decode cX11_tallyEnds 43 = .ok (.iastore, 1) := by decide +kernel
theorem dX11_tallyEnds_44 : decode cX11_tallyEnds 44 = .ok (.iinc 3 1, 3) := by decide +kernel
theorem dX11_tallyEnds_47 : decode cX11_tallyEnds 47 = .ok (.goto (-24), 3) := by decide +kernel
theorem dX11_tallyEnds_50 : decode cX11_tallyEnds 50 = .ok (.return_, 1) := by decide +kernel
set_option maxRecDepth 100000 in
set_option maxHeartbeats 4000000 in
theorem kX11_tallyEnds (l : Launch) (w : wT) (hw : yOk w 55) (σ : Hp) (a1 : Int32) (a2 : Int32) (K : Hp → Prop) (hv : VX11_tallyEnds K σ a1 a2) : yMet l w xcf 55 yX11_tallyEnds cX11_tallyEnds 4 none 6 [.ref (w.1 0), .int a1, .int a2] σ (yQv w xcf 55 K) := by
  unfold VX11_tallyEnds at hv
  refine y_start (lv0 := [(0, .ref (w.1 0)), (1, .int a1), (2, .int a2)]) (by decide +kernel) (own := RX11) rfl hw (Nat.le_of_ble_eq_true rfl) rfl (fun p e s m below meth c A E => ?_)
  have hL23 : ∀ (n23 : Nat) (σ : Hp) (l1 : Int32) (l2 : Int32) (l3 : Int32), VX11_tallyEnds_L23 K n23 σ l1 l2 l3 → YY p l e (yRm 6) s m [.ref (w.1 0), .int a1, .int a2].toArray below meth c w xcf 55 A (MQ below (yQv w xcf 55 K A) [.ref (w.1 0), .int a1, .int a2].toArray s 0 0 A) 4 σ 23 [(0, .ref (w.1 0)), (1, .int l1), (2, .int l2), (3, .int l3)] [] := by
    intro n23
    induction n23 with
    | zero => exact fun _ _ _ _ hv => (by unfold VX11_tallyEnds_L23 at hv; exact hv.elim)
    | succ n23 ih23 =>
      intro σ l1 l2 l3 hv
      unfold VX11_tallyEnds_L23 at hv
      refine y_iload_n E dX11_tallyEnds_23 3 rfl ?_
      refine y_iconst (v := 5) E dX11_tallyEnds_24 (by decide) ?_
      refine y_icmp_ge (tgt := 50) E dX11_tallyEnds_25 (by decide) (fun c4 => ?_) (fun c4 => ?_)
      · replace hv := ite_t hv c4
        exact y_vret E dX11_tallyEnds_50 hv
      · replace hv := ite_f hv c4
        refine y_aload_n E dX11_tallyEnds_28 0 rfl ?_
        refine gf_X11_13 E (by decide) (by decide) wm_388 dX11_tallyEnds_29 ?_
        refine y_aload_n E dX11_tallyEnds_32 0 rfl ?_
        refine y_iload_n E dX11_tallyEnds_33 1 rfl ?_
        refine y_iload_n E dX11_tallyEnds_34 3 rfl ?_
        refine y_iload_n E dX11_tallyEnds_35 2 rfl ?_
        refine y_calli E (y_runV E (rest := [.ref (w.1 54)]) (kX11_endOf l w E.2.2.1 σ l1 l3 l2 _ hv) (y_cwV 3 E.1.2.2.2.2 wm_380 wm_381 wm_382 wm_116 wm_383 (by decide +kernel) (yRm_le (by decide) (by decide))) (Nat.lt_of_lt_of_le (show 0 < 1 by decide) (by decide)) (xc_X11 (by decide) (by decide)) rfl rfl rfl (Nat.le_of_ble_eq_true rfl) dX11_tallyEnds_36) (fun v5 u6 hk => ?_)
        clear hv
        have hv := hk
        clear hk
        refine y_dup2 E dX11_tallyEnds_39 rfl rfl ?_
        obtain ⟨hi, hv⟩ := hv
        refine y_iald E (Nat.lt_of_lt_of_le (show 54 < 55 by decide) (by decide)) (xc_tally (by decide) (by decide)) hi dX11_tallyEnds_40 ?_
        refine y_iconst (v := 1) E dX11_tallyEnds_41 (by decide) ?_
        refine y_iadd E dX11_tallyEnds_42 ?_
        obtain ⟨hi, hv⟩ := hv
        refine y_iast E (Nat.lt_of_lt_of_le (show 54 < 55 by decide) (by decide)) (fun _ => xc_tally (by decide) (by decide)) hi dX11_tallyEnds_43 ?_
        refine y_nmH (fun u7 hu7 => ?_)
        replace hv := hv u7 hu7
        obtain ⟨x8, hx8⟩ : ∃ z : Int32, z = l3 + 1 := ⟨_, rfl⟩
        replace hv := hv x8 hx8
        refine y_iinc (v := x8) (lv' := [(3, .int x8), (0, .ref (w.1 0)), (1, .int l1), (2, .int l2)]) E dX11_tallyEnds_44 3 rfl (by rw [hx8]; rfl) (by decide) rfl ?_
        refine y_goto (tgt := 23) E dX11_tallyEnds_47 (by decide) ?_
        refine y_lv (lv' := [(0, .ref (w.1 0)), (1, .int l1), (2, .int l2), (3, .int x8)]) [1, 2, 3, 0] rfl ?_
        exact ih23 u7 l1 l2 x8 hv
  have hL2 : ∀ (n2 : Nat) (σ : Hp) (l1 : Int32) (l2 : Int32) (l3 : Int32), VX11_tallyEnds_L2 K n2 σ l1 l2 l3 → YY p l e (yRm 6) s m [.ref (w.1 0), .int a1, .int a2].toArray below meth c w xcf 55 A (MQ below (yQv w xcf 55 K A) [.ref (w.1 0), .int a1, .int a2].toArray s 0 0 A) 4 σ 2 [(0, .ref (w.1 0)), (1, .int l1), (2, .int l2), (3, .int l3)] [] := by
    intro n2
    induction n2 with
    | zero => exact fun _ _ _ _ hv => (by unfold VX11_tallyEnds_L2 at hv; exact hv.elim)
    | succ n2 ih2 =>
      intro σ l1 l2 l3 hv
      unfold VX11_tallyEnds_L2 at hv
      refine y_iload_n E dX11_tallyEnds_2 3 rfl ?_
      refine y_bipush (v := 30) E dX11_tallyEnds_3 (by decide) ?_
      refine y_icmp_ge (tgt := 21) E dX11_tallyEnds_5 (by decide) (fun c1 => ?_) (fun c1 => ?_)
      · replace hv := ite_t hv c1
        refine y_iconst (v := 0) E dX11_tallyEnds_21 (by decide) ?_
        refine y_istore_n (lv' := [(3, .int 0), (0, .ref (w.1 0)), (1, .int l1), (2, .int l2)]) E dX11_tallyEnds_22 (by decide) rfl ?_
        refine y_lv (lv' := [(0, .ref (w.1 0)), (1, .int l1), (2, .int l2), (3, .int 0)]) [1, 2, 3, 0] rfl ?_
        obtain ⟨n0, hv⟩ := hv
        exact hL23 n0 σ l1 l2 0 hv
      · replace hv := ite_f hv c1
        refine y_aload_n E dX11_tallyEnds_8 0 rfl ?_
        refine gf_X11_13 E (by decide) (by decide) wm_388 dX11_tallyEnds_9 ?_
        refine y_iload_n E dX11_tallyEnds_12 3 rfl ?_
        refine y_iconst (v := 0) E dX11_tallyEnds_13 (by decide) ?_
        obtain ⟨hi, hv⟩ := hv
        refine y_iast E (Nat.lt_of_lt_of_le (show 54 < 55 by decide) (by decide)) (fun _ => xc_tally (by decide) (by decide)) hi dX11_tallyEnds_14 ?_
        refine y_nmH (fun u2 hu2 => ?_)
        replace hv := hv u2 hu2
        obtain ⟨x3, hx3⟩ : ∃ z : Int32, z = l3 + 1 := ⟨_, rfl⟩
        replace hv := hv x3 hx3
        refine y_iinc (v := x3) (lv' := [(3, .int x3), (0, .ref (w.1 0)), (1, .int l1), (2, .int l2)]) E dX11_tallyEnds_15 3 rfl (by rw [hx3]; rfl) (by decide) rfl ?_
        refine y_goto (tgt := 2) E dX11_tallyEnds_18 (by decide) ?_
        refine y_lv (lv' := [(0, .ref (w.1 0)), (1, .int l1), (2, .int l2), (3, .int x3)]) [1, 2, 3, 0] rfl ?_
        exact ih2 u2 l1 l2 x3 hv
  refine y_iconst (v := 0) E dX11_tallyEnds_0 (by decide) ?_
  refine y_istore_n (lv' := [(3, .int 0), (0, .ref (w.1 0)), (1, .int a1), (2, .int a2)]) E dX11_tallyEnds_1 (by decide) rfl ?_
  refine y_lv (lv' := [(0, .ref (w.1 0)), (1, .int a1), (2, .int a2), (3, .int 0)]) [1, 2, 3, 0] rfl ?_
  obtain ⟨n0, hv⟩ := hv
  exact hL2 n0 σ a1 a2 0 hv
theorem dX11_look_0 : decode cX11_look 0 = .ok (.aload_n 0, 1) := by decide +kernel
theorem dX11_look_1 : decode cX11_look 1 = .ok (.iload_n 1, 1) := by decide +kernel
theorem dX11_look_2 : decode cX11_look 2 = .ok (.invokevirtual 175, 3) := by decide +kernel
theorem dX11_look_5 : decode cX11_look 5 = .ok (.ifCond .ne 6, 3) := by decide +kernel
theorem dX11_look_8 : decode cX11_look 8 = .ok (.bipush (-5), 2) := by decide +kernel
theorem dX11_look_10 : decode cX11_look 10 = .ok (.ireturn, 1) := by decide +kernel
theorem dX11_look_11 : decode cX11_look 11 = .ok (.iload_n 2, 1) := by decide +kernel
theorem dX11_look_12 : decode cX11_look 12 = .ok (.invokestatic 178, 3) := by decide +kernel
theorem dX11_look_15 : decode cX11_look 15 = .ok (.ifCond .eq 10, 3) := by decide +kernel
theorem dX11_look_18 : decode cX11_look 18 = .ok (.iload_n 3, 1) := by decide +kernel
theorem dX11_look_19 : decode cX11_look 19 = .ok (.invokestatic 181, 3) := by decide +kernel
theorem dX11_look_22 : decode cX11_look 22 = .ok (.ifCond .ne 6, 3) := by decide +kernel
theorem dX11_look_25 : decode cX11_look 25 = .ok (.bipush (-7), 2) := by decide +kernel
theorem dX11_look_27 : decode cX11_look 27 = .ok (.ireturn, 1) := by decide +kernel
theorem dX11_look_28 : decode cX11_look 28 = .ok (.aload_n 0, 1) := by decide +kernel
theorem dX11_look_29 : decode cX11_look 29 = .ok (.iload_n 1, 1) := by decide +kernel
theorem dX11_look_30 : decode cX11_look 30 = .ok (.iload_n 2, 1) := by decide +kernel
theorem dX11_look_31 : decode cX11_look 31 = .ok (.invokevirtual 239, 3) := by decide +kernel
theorem dX11_look_34 : decode cX11_look 34 = .ok (.iconst 0, 1) := by decide +kernel
theorem dX11_look_35 : decode cX11_look 35 = .ok (.istore 4, 2) := by decide +kernel
theorem dX11_look_37 : decode cX11_look 37 = .ok (.iconst 1, 1) := by decide +kernel
theorem dX11_look_38 : decode cX11_look 38 = .ok (.istore 5, 2) := by decide +kernel
theorem dX11_look_40 : decode cX11_look 40 = .ok (.iload 5, 2) := by decide +kernel
theorem dX11_look_42 : decode cX11_look 42 = .ok (.bipush 30, 2) := by decide +kernel
theorem dX11_look_44 : decode cX11_look 44 = .ok (.if_icmp .ge 35, 3) := by decide +kernel
theorem dX11_look_47 : decode cX11_look 47 = .ok (.aload_n 0, 1) := by decide +kernel
theorem dX11_look_48 : decode cX11_look 48 = .ok (.getfield 66, 3) := by decide +kernel
theorem dX11_look_51 : decode cX11_look 51 = .ok (.iload 5, 2) := by decide +kernel
theorem dX11_look_53 : decode cX11_look 53 = .ok (.iaload, 1) := by decide +kernel
theorem dX11_look_54 : decode cX11_look 54 = .ok (.aload_n 0, 1) := by decide +kernel
theorem dX11_look_55 : decode cX11_look 55 = .ok (.getfield 66, 3) := by decide +kernel
theorem dX11_look_58 : decode cX11_look 58 = .ok (.iload 4, 2) := by decide +kernel
theorem dX11_look_60 : decode cX11_look 60 = .ok (.iaload, 1) := by decide +kernel
theorem dX11_look_61 : decode cX11_look 61 = .ok (.if_icmp .le 8, 3) := by decide +kernel
theorem dX11_look_64 : decode cX11_look 64 = .ok (.iload 5, 2) := by decide +kernel
theorem dX11_look_66 : decode cX11_look 66 = .ok (.goto 5, 3) := by decide +kernel
theorem dX11_look_69 : decode cX11_look 69 = .ok (.iload 4, 2) := by decide +kernel
theorem dX11_look_71 : decode cX11_look 71 = .ok (.istore 4, 2) := by decide +kernel
theorem dX11_look_73 : decode cX11_look 73 = .ok (.iinc 5 1, 3) := by decide +kernel
theorem dX11_look_76 : decode cX11_look 76 = .ok (.goto (-36), 3) := by decide +kernel
theorem dX11_look_79 : decode cX11_look 79 = .ok (.iload_n 3, 1) := by decide +kernel
theorem dX11_look_80 : decode cX11_look 80 = .ok (.ifCond .ne 8, 3) := by decide +kernel
theorem dX11_look_83 : decode cX11_look 83 = .ok (.iload 4, 2) := by decide +kernel
theorem dX11_look_85 : decode cX11_look 85 = .ok (.goto 10, 3) := by decide +kernel
theorem dX11_look_88 : decode cX11_look 88 = .ok (.aload_n 0, 1) := by decide +kernel
theorem dX11_look_89 : decode cX11_look 89 = .ok (.getfield 66, 3) := by decide +kernel
theorem dX11_look_92 : decode cX11_look 92 = .ok (.iload 4, 2) := by decide +kernel
theorem dX11_look_94 : decode cX11_look 94 = .ok (.iaload, 1) := by decide +kernel
theorem dX11_look_95 : decode cX11_look 95 = .ok (.ireturn, 1) := by decide +kernel
set_option maxRecDepth 100000 in
set_option maxHeartbeats 4000000 in
theorem kX11_look (l : Launch) (w : wT) (hw : yOk w 55) (σ : Hp) (a1 : Int32) (a2 : Int32) (a3 : Int32) (K : Int32 → Hp → Prop) (hv : VX11_look K σ a1 a2 a3) : yMet l w xcf 55 yX11_look cX11_look 6 (some .int) 7 [.ref (w.1 0), .int a1, .int a2, .int a3] σ (yQi w xcf 55 K) := by
  unfold VX11_look at hv
  refine y_start (lv0 := [(0, .ref (w.1 0)), (1, .int a1), (2, .int a2), (3, .int a3)]) (by decide +kernel) (own := RX11) rfl hw (Nat.le_of_ble_eq_true rfl) rfl (fun p e s m below meth c A E => ?_)
  have hL40 : ∀ (n40 : Nat) (σ : Hp) (l3 : Int32) (l4 : Int32) (l5 : Int32), VX11_look_L40 K n40 σ l3 l4 l5 → YY p l e (yRm 7) s m [.ref (w.1 0), .int a1, .int a2, .int a3].toArray below meth c w xcf 55 A (MQ below (yQi w xcf 55 K A) [.ref (w.1 0), .int a1, .int a2, .int a3].toArray s 0 0 A) 6 σ 40 [(0, .ref (w.1 0)), (3, .int l3), (4, .int l4), (5, .int l5)] [] := by
    intro n40
    induction n40 with
    | zero => exact fun _ _ _ _ hv => (by unfold VX11_look_L40 at hv; exact hv.elim)
    | succ n40 ih40 =>
      intro σ l3 l4 l5 hv
      unfold VX11_look_L40 at hv
      refine y_iload E dX11_look_40 3 rfl ?_
      refine y_bipush (v := 30) E dX11_look_42 (by decide) ?_
      refine y_icmp_ge (tgt := 79) E dX11_look_44 (by decide) (fun c12 => ?_) (fun c12 => ?_)
      · replace hv := ite_t hv c12
        refine y_iload_n E dX11_look_79 1 rfl ?_
        refine y_if_ne (tgt := 88) E dX11_look_80 (by decide) (fun c13 => ?_) (fun c13 => ?_)
        · replace hv := ite_f hv c13
          refine y_aload_n E dX11_look_88 0 rfl ?_
          refine gf_X11_13 E (by decide) (by decide) wm_388 dX11_look_89 ?_
          refine y_iload E dX11_look_92 2 rfl ?_
          obtain ⟨hi, hv⟩ := hv
          refine y_iald E (Nat.lt_of_lt_of_le (show 54 < 55 by decide) (by decide)) (xc_tally (by decide) (by decide)) hi dX11_look_94 ?_
          exact y_iret E dX11_look_95 hv
        · replace hv := ite_t hv c13
          refine y_iload E dX11_look_83 2 rfl ?_
          refine y_goto (tgt := 95) E dX11_look_85 (by decide) ?_
          exact y_iret E dX11_look_95 hv
      · replace hv := ite_f hv c12
        refine y_aload_n E dX11_look_47 0 rfl ?_
        refine gf_X11_13 E (by decide) (by decide) wm_388 dX11_look_48 ?_
        refine y_iload E dX11_look_51 3 rfl ?_
        obtain ⟨hi, hv⟩ := hv
        refine y_iald E (Nat.lt_of_lt_of_le (show 54 < 55 by decide) (by decide)) (xc_tally (by decide) (by decide)) hi dX11_look_53 ?_
        refine y_aload_n E dX11_look_54 0 rfl ?_
        refine gf_X11_13 E (by decide) (by decide) wm_388 dX11_look_55 ?_
        refine y_iload E dX11_look_58 2 rfl ?_
        obtain ⟨hi, hv⟩ := hv
        refine y_iald E (Nat.lt_of_lt_of_le (show 54 < 55 by decide) (by decide)) (xc_tally (by decide) (by decide)) hi dX11_look_60 ?_
        refine y_icmp_le (tgt := 69) E dX11_look_61 (by decide) (fun c14 => ?_) (fun c14 => ?_)
        · replace hv := ite_t hv c14
          refine y_iload E dX11_look_69 2 rfl ?_
          refine y_istore (lv' := [(4, .int l4), (0, .ref (w.1 0)), (3, .int l3), (5, .int l5)]) E dX11_look_71 (by decide) rfl ?_
          obtain ⟨x15, hx15⟩ : ∃ z : Int32, z = l5 + 1 := ⟨_, rfl⟩
          replace hv := hv x15 hx15
          refine y_iinc (v := x15) (lv' := [(5, .int x15), (4, .int l4), (0, .ref (w.1 0)), (3, .int l3)]) E dX11_look_73 3 rfl (by rw [hx15]; rfl) (by decide) rfl ?_
          refine y_goto (tgt := 40) E dX11_look_76 (by decide) ?_
          refine y_lv (lv' := [(0, .ref (w.1 0)), (3, .int l3), (4, .int l4), (5, .int x15)]) [2, 3, 1, 0] rfl ?_
          exact ih40 σ l3 l4 x15 hv
        · replace hv := ite_f hv c14
          refine y_iload E dX11_look_64 3 rfl ?_
          refine y_goto (tgt := 71) E dX11_look_66 (by decide) ?_
          refine y_istore (lv' := [(4, .int l5), (0, .ref (w.1 0)), (3, .int l3), (5, .int l5)]) E dX11_look_71 (by decide) rfl ?_
          obtain ⟨x16, hx16⟩ : ∃ z : Int32, z = l5 + 1 := ⟨_, rfl⟩
          replace hv := hv x16 hx16
          refine y_iinc (v := x16) (lv' := [(5, .int x16), (4, .int l5), (0, .ref (w.1 0)), (3, .int l3)]) E dX11_look_73 3 rfl (by rw [hx16]; rfl) (by decide) rfl ?_
          refine y_goto (tgt := 40) E dX11_look_76 (by decide) ?_
          refine y_lv (lv' := [(0, .ref (w.1 0)), (3, .int l3), (4, .int l5), (5, .int x16)]) [2, 3, 1, 0] rfl ?_
          exact ih40 σ l3 l5 x16 hv
  refine y_aload_n E dX11_look_0 0 rfl ?_
  refine y_iload_n E dX11_look_1 1 rfl ?_
  refine y_calli E (y_runV E (rest := []) (kX11_isThing l w E.2.2.1 σ a1 _ hv) (y_cwV 1 E.1.2.2.2.2 wm_322 wm_323 wm_324 wm_116 wm_325 (by decide +kernel) (yRm_le (by decide) (by decide))) (Nat.lt_of_lt_of_le (show 0 < 1 by decide) (by decide)) (xc_X11 (by decide) (by decide)) rfl rfl rfl (Nat.le_of_ble_eq_true rfl) dX11_look_2) (fun v1 u2 hk => ?_)
  clear hv
  have hv := hk
  clear hk
  refine y_if_ne (tgt := 11) E dX11_look_5 (by decide) (fun c3 => ?_) (fun c3 => ?_)
  · replace hv := ite_f hv c3
    refine y_iload_n E dX11_look_11 2 rfl ?_
    refine y_calli E (y_runS E (rest := []) (kX11_isBehind l w E.2.2.1 u2 a2 _ hv) (y_cwS 1 E.1.2.2.2.2 wm_326 wm_336 wm_116 wm_337 (by decide +kernel) (yRm_le (by decide) (by decide))) rfl rfl (Nat.le_of_ble_eq_true rfl) dX11_look_12) (fun v4 u5 hk => ?_)
    clear hv
    have hv := hk
    clear hk
    refine y_if_eq (tgt := 25) E dX11_look_15 (by decide) (fun c6 => ?_) (fun c6 => ?_)
    · replace hv := ite_t hv c6
      refine y_bipush (v := (-7)) E dX11_look_25 (by decide) ?_
      exact y_iret E dX11_look_27 hv
    · replace hv := ite_f hv c6
      refine y_iload_n E dX11_look_18 3 rfl ?_
      refine y_calli E (y_runS E (rest := []) (kX11_isChoice l w E.2.2.1 u5 a3 _ hv) (y_cwS 1 E.1.2.2.2.2 wm_327 wm_334 wm_116 wm_335 (by decide +kernel) (yRm_le (by decide) (by decide))) rfl rfl (Nat.le_of_ble_eq_true rfl) dX11_look_19) (fun v7 u8 hk => ?_)
      clear hv
      have hv := hk
      clear hk
      refine y_if_ne (tgt := 28) E dX11_look_22 (by decide) (fun c9 => ?_) (fun c9 => ?_)
      · replace hv := ite_f hv c9
        refine y_aload_n E dX11_look_28 0 rfl ?_
        refine y_iload_n E dX11_look_29 1 rfl ?_
        refine y_iload_n E dX11_look_30 2 rfl ?_
        refine y_callv E (y_runV E (rest := []) (kX11_tallyEnds l w E.2.2.1 u8 a1 a2 _ hv) (y_cwV 2 E.1.2.2.2.2 wm_384 wm_385 wm_386 wm_116 wm_387 (by decide +kernel) (yRm_le (by decide) (by decide))) (Nat.lt_of_lt_of_le (show 0 < 1 by decide) (by decide)) (xc_X11 (by decide) (by decide)) rfl rfl rfl (Nat.le_of_ble_eq_true rfl) dX11_look_31) (fun u11 hk => ?_)
        clear hv
        have hv := hk
        clear hk
        refine y_iconst (v := 0) E dX11_look_34 (by decide) ?_
        refine y_istore (lv' := [(4, .int 0), (0, .ref (w.1 0)), (1, .int a1), (2, .int a2), (3, .int a3)]) E dX11_look_35 (by decide) rfl ?_
        refine y_iconst (v := 1) E dX11_look_37 (by decide) ?_
        refine y_istore (lv' := [(5, .int 1), (4, .int 0), (0, .ref (w.1 0)), (1, .int a1), (2, .int a2), (3, .int a3)]) E dX11_look_38 (by decide) rfl ?_
        refine y_lv (lv' := [(0, .ref (w.1 0)), (3, .int a3), (4, .int 0), (5, .int 1)]) [2, 5, 1, 0] rfl ?_
        obtain ⟨n0, hv⟩ := hv
        exact hL40 n0 u11 a3 0 1 hv
      · replace hv := ite_t hv c9
        refine y_bipush (v := (-7)) E dX11_look_25 (by decide) ?_
        exact y_iret E dX11_look_27 hv
  · replace hv := ite_t hv c3
    refine y_bipush (v := (-5)) E dX11_look_8 (by decide) ?_
    exact y_iret E dX11_look_10 hv
theorem dX11_went_0 : decode cX11_went 0 = .ok (.aload_n 0, 1) := by decide +kernel
theorem dX11_went_1 : decode cX11_went 1 = .ok (.iload_n 1, 1) := by decide +kernel
theorem dX11_went_2 : decode cX11_went 2 = .ok (.invokevirtual 175, 3) := by decide +kernel
theorem dX11_went_5 : decode cX11_went 5 = .ok (.ifCond .ne 6, 3) := by decide +kernel
theorem dX11_went_8 : decode cX11_went 8 = .ok (.bipush (-5), 2) := by decide +kernel
theorem dX11_went_10 : decode cX11_went 10 = .ok (.ireturn, 1) := by decide +kernel
theorem dX11_went_11 : decode cX11_went 11 = .ok (.iload_n 2, 1) := by decide +kernel
theorem dX11_went_12 : decode cX11_went 12 = .ok (.invokestatic 178, 3) := by decide +kernel
theorem dX11_went_15 : decode cX11_went 15 = .ok (.ifCond .eq 10, 3) := by decide +kernel
theorem dX11_went_18 : decode cX11_went 18 = .ok (.iload_n 3, 1) := by decide +kernel
theorem dX11_went_19 : decode cX11_went 19 = .ok (.invokestatic 97, 3) := by decide +kernel
theorem dX11_went_22 : decode cX11_went 22 = .ok (.ifCond .ne 6, 3) := by decide +kernel
theorem dX11_went_25 : decode cX11_went 25 = .ok (.bipush (-7), 2) := by decide +kernel
theorem dX11_went_27 : decode cX11_went 27 = .ok (.ireturn, 1) := by decide +kernel
theorem dX11_went_28 : decode cX11_went 28 = .ok (.iconst 0, 1) := by decide +kernel
theorem dX11_went_29 : decode cX11_went 29 = .ok (.istore 4, 2) := by decide +kernel
theorem dX11_went_31 : decode cX11_went 31 = .ok (.iconst 0, 1) := by decide +kernel
theorem dX11_went_32 : decode cX11_went 32 = .ok (.istore 5, 2) := by decide +kernel
theorem dX11_went_34 : decode cX11_went 34 = .ok (.iload 5, 2) := by decide +kernel
theorem dX11_went_36 : decode cX11_went 36 = .ok (.iconst 5, 1) := by decide +kernel
theorem dX11_went_37 : decode cX11_went 37 = .ok (.if_icmp .ge 34, 3) := by decide +kernel
theorem dX11_went_40 : decode cX11_went 40 = .ok (.iload 4, 2) := by decide +kernel
theorem dX11_went_42 : decode cX11_went 42 = .ok (.aload_n 0, 1) := by decide +kernel
theorem dX11_went_43 : decode cX11_went 43 = .ok (.iload_n 1, 1) := by decide +kernel
theorem dX11_went_44 : decode cX11_went 44 = .ok (.iload 5, 2) := by decide +kernel
theorem dX11_went_46 : decode cX11_went 46 = .ok (.iload_n 2, 1) := by decide +kernel
theorem dX11_went_47 : decode cX11_went 47 = .ok (.invokevirtual 236, 3) := by decide +kernel
theorem dX11_went_50 : decode cX11_went 50 = .ok (.iload_n 3, 1) := by decide +kernel
theorem dX11_went_51 : decode cX11_went 51 = .ok (.if_icmp .ne 10, 3) := by decide +kernel
theorem dX11_went_54 : decode cX11_went 54 = .ok (.iconst 1, 1) := by decide +kernel
theorem dX11_went_55 : decode cX11_went 55 = .ok (.iload 5, 2) := by decide +kernel
theorem dX11_went_57 : decode cX11_went 57 = .ok (.ishl, 1) := by decide +kernel
theorem dX11_went_58 : decode cX11_went 58 = .ok (.goto 4, 3) := by decide +kernel
theorem dX11_went_61 : decode cX11_went 61 = .ok (.iconst 0, 1) := by decide +kernel
theorem dX11_went_62 : decode cX11_went 62 = .ok (.ior, 1) := by decide +kernel
theorem dX11_went_63 : decode cX11_went 63 = .ok (.istore 4, 2) := by decide +kernel
theorem dX11_went_65 : decode cX11_went 65 = .ok (.iinc 5 1, 3) := by decide +kernel
theorem dX11_went_68 : decode cX11_went 68 = .ok (.goto (-34), 3) := by decide +kernel
theorem dX11_went_71 : decode cX11_went 71 = .ok (.iload 4, 2) := by decide +kernel
theorem dX11_went_73 : decode cX11_went 73 = .ok (.ireturn, 1) := by decide +kernel
set_option maxRecDepth 100000 in
set_option maxHeartbeats 4000000 in
theorem kX11_went (l : Launch) (w : wT) (hw : yOk w 55) (σ : Hp) (a1 : Int32) (a2 : Int32) (a3 : Int32) (K : Int32 → Hp → Prop) (hv : VX11_went K σ a1 a2 a3) : yMet l w xcf 55 yX11_went cX11_went 6 (some .int) 6 [.ref (w.1 0), .int a1, .int a2, .int a3] σ (yQi w xcf 55 K) := by
  unfold VX11_went at hv
  refine y_start (lv0 := [(0, .ref (w.1 0)), (1, .int a1), (2, .int a2), (3, .int a3)]) (by decide +kernel) (own := RX11) rfl hw (Nat.le_of_ble_eq_true rfl) rfl (fun p e s m below meth c A E => ?_)
  have hL34 : ∀ (n34 : Nat) (σ : Hp) (l1 : Int32) (l2 : Int32) (l3 : Int32) (l4 : Int32) (l5 : Int32), VX11_went_L34 K n34 σ l1 l2 l3 l4 l5 → YY p l e (yRm 6) s m [.ref (w.1 0), .int a1, .int a2, .int a3].toArray below meth c w xcf 55 A (MQ below (yQi w xcf 55 K A) [.ref (w.1 0), .int a1, .int a2, .int a3].toArray s 0 0 A) 6 σ 34 [(0, .ref (w.1 0)), (1, .int l1), (2, .int l2), (3, .int l3), (4, .int l4), (5, .int l5)] [] := by
    intro n34
    induction n34 with
    | zero => exact fun _ _ _ _ _ _ hv => (by unfold VX11_went_L34 at hv; exact hv.elim)
    | succ n34 ih34 =>
      intro σ l1 l2 l3 l4 l5 hv
      unfold VX11_went_L34 at hv
      refine y_iload E dX11_went_34 5 rfl ?_
      refine y_iconst (v := 5) E dX11_went_36 (by decide) ?_
      refine y_icmp_ge (tgt := 71) E dX11_went_37 (by decide) (fun c10 => ?_) (fun c10 => ?_)
      · replace hv := ite_t hv c10
        refine y_iload E dX11_went_71 4 rfl ?_
        exact y_iret E dX11_went_73 hv
      · replace hv := ite_f hv c10
        refine y_iload E dX11_went_40 4 rfl ?_
        refine y_aload_n E dX11_went_42 0 rfl ?_
        refine y_iload_n E dX11_went_43 1 rfl ?_
        refine y_iload E dX11_went_44 5 rfl ?_
        refine y_iload_n E dX11_went_46 2 rfl ?_
        refine y_calli E (y_runV E (rest := [.int l4]) (kX11_endOf l w E.2.2.1 σ l1 l5 l2 _ hv) (y_cwV 3 E.1.2.2.2.2 wm_380 wm_381 wm_382 wm_116 wm_383 (by decide +kernel) (yRm_le (by decide) (by decide))) (Nat.lt_of_lt_of_le (show 0 < 1 by decide) (by decide)) (xc_X11 (by decide) (by decide)) rfl rfl rfl (Nat.le_of_ble_eq_true rfl) dX11_went_47) (fun v11 u12 hk => ?_)
        clear hv
        have hv := hk
        clear hk
        refine y_iload_n E dX11_went_50 3 rfl ?_
        refine y_icmp_ne (tgt := 61) E dX11_went_51 (by decide) (fun c13 => ?_) (fun c13 => ?_)
        · replace hv := ite_f hv c13
          refine y_iconst (v := 0) E dX11_went_61 (by decide) ?_
          refine y_ior E dX11_went_62 ?_
          refine y_nmi (fun x14 hx14 => ?_)
          replace hv := hv x14 hx14
          refine y_istore (lv' := [(4, .int x14), (0, .ref (w.1 0)), (1, .int l1), (2, .int l2), (3, .int l3), (5, .int l5)]) E dX11_went_63 (by decide) rfl ?_
          obtain ⟨x15, hx15⟩ : ∃ z : Int32, z = l5 + 1 := ⟨_, rfl⟩
          replace hv := hv x15 hx15
          refine y_iinc (v := x15) (lv' := [(5, .int x15), (4, .int x14), (0, .ref (w.1 0)), (1, .int l1), (2, .int l2), (3, .int l3)]) E dX11_went_65 5 rfl (by rw [hx15]; rfl) (by decide) rfl ?_
          refine y_goto (tgt := 34) E dX11_went_68 (by decide) ?_
          refine y_lv (lv' := [(0, .ref (w.1 0)), (1, .int l1), (2, .int l2), (3, .int l3), (4, .int x14), (5, .int x15)]) [2, 3, 4, 5, 1, 0] rfl ?_
          exact ih34 u12 l1 l2 l3 x14 x15 hv
        · replace hv := ite_t hv c13
          refine y_iconst (v := 1) E dX11_went_54 (by decide) ?_
          refine y_iload E dX11_went_55 5 rfl ?_
          refine y_ishl E dX11_went_57 ?_
          refine y_goto (tgt := 62) E dX11_went_58 (by decide) ?_
          refine y_ior E dX11_went_62 ?_
          refine y_nmi (fun x16 hx16 => ?_)
          replace hv := hv x16 hx16
          refine y_istore (lv' := [(4, .int x16), (0, .ref (w.1 0)), (1, .int l1), (2, .int l2), (3, .int l3), (5, .int l5)]) E dX11_went_63 (by decide) rfl ?_
          obtain ⟨x17, hx17⟩ : ∃ z : Int32, z = l5 + 1 := ⟨_, rfl⟩
          replace hv := hv x17 hx17
          refine y_iinc (v := x17) (lv' := [(5, .int x17), (4, .int x16), (0, .ref (w.1 0)), (1, .int l1), (2, .int l2), (3, .int l3)]) E dX11_went_65 5 rfl (by rw [hx17]; rfl) (by decide) rfl ?_
          refine y_goto (tgt := 34) E dX11_went_68 (by decide) ?_
          refine y_lv (lv' := [(0, .ref (w.1 0)), (1, .int l1), (2, .int l2), (3, .int l3), (4, .int x16), (5, .int x17)]) [2, 3, 4, 5, 1, 0] rfl ?_
          exact ih34 u12 l1 l2 l3 x16 x17 hv
  refine y_aload_n E dX11_went_0 0 rfl ?_
  refine y_iload_n E dX11_went_1 1 rfl ?_
  refine y_calli E (y_runV E (rest := []) (kX11_isThing l w E.2.2.1 σ a1 _ hv) (y_cwV 1 E.1.2.2.2.2 wm_322 wm_323 wm_324 wm_116 wm_325 (by decide +kernel) (yRm_le (by decide) (by decide))) (Nat.lt_of_lt_of_le (show 0 < 1 by decide) (by decide)) (xc_X11 (by decide) (by decide)) rfl rfl rfl (Nat.le_of_ble_eq_true rfl) dX11_went_2) (fun v1 u2 hk => ?_)
  clear hv
  have hv := hk
  clear hk
  refine y_if_ne (tgt := 11) E dX11_went_5 (by decide) (fun c3 => ?_) (fun c3 => ?_)
  · replace hv := ite_f hv c3
    refine y_iload_n E dX11_went_11 2 rfl ?_
    refine y_calli E (y_runS E (rest := []) (kX11_isBehind l w E.2.2.1 u2 a2 _ hv) (y_cwS 1 E.1.2.2.2.2 wm_326 wm_336 wm_116 wm_337 (by decide +kernel) (yRm_le (by decide) (by decide))) rfl rfl (Nat.le_of_ble_eq_true rfl) dX11_went_12) (fun v4 u5 hk => ?_)
    clear hv
    have hv := hk
    clear hk
    refine y_if_eq (tgt := 25) E dX11_went_15 (by decide) (fun c6 => ?_) (fun c6 => ?_)
    · replace hv := ite_t hv c6
      refine y_bipush (v := (-7)) E dX11_went_25 (by decide) ?_
      exact y_iret E dX11_went_27 hv
    · replace hv := ite_f hv c6
      refine y_iload_n E dX11_went_18 3 rfl ?_
      refine y_calli E (y_runS E (rest := []) (kX11_isCell l w E.2.2.1 u5 a3 _ hv) (y_cwS 1 E.1.2.2.2.2 wm_265 wm_270 wm_116 wm_271 (by decide +kernel) (yRm_le (by decide) (by decide))) rfl rfl (Nat.le_of_ble_eq_true rfl) dX11_went_19) (fun v7 u8 hk => ?_)
      clear hv
      have hv := hk
      clear hk
      refine y_if_ne (tgt := 28) E dX11_went_22 (by decide) (fun c9 => ?_) (fun c9 => ?_)
      · replace hv := ite_f hv c9
        refine y_iconst (v := 0) E dX11_went_28 (by decide) ?_
        refine y_istore (lv' := [(4, .int 0), (0, .ref (w.1 0)), (1, .int a1), (2, .int a2), (3, .int a3)]) E dX11_went_29 (by decide) rfl ?_
        refine y_iconst (v := 0) E dX11_went_31 (by decide) ?_
        refine y_istore (lv' := [(5, .int 0), (4, .int 0), (0, .ref (w.1 0)), (1, .int a1), (2, .int a2), (3, .int a3)]) E dX11_went_32 (by decide) rfl ?_
        refine y_lv (lv' := [(0, .ref (w.1 0)), (1, .int a1), (2, .int a2), (3, .int a3), (4, .int 0), (5, .int 0)]) [2, 3, 4, 5, 1, 0] rfl ?_
        obtain ⟨n0, hv⟩ := hv
        exact hL34 n0 u8 a1 a2 a3 0 0 hv
      · replace hv := ite_t hv c9
        refine y_bipush (v := (-7)) E dX11_went_25 (by decide) ?_
        exact y_iret E dX11_went_27 hv
  · replace hv := ite_t hv c3
    refine y_bipush (v := (-5)) E dX11_went_8 (by decide) ?_
    exact y_iret E dX11_went_10 hv
theorem dX11_countAhead_0 : decode cX11_countAhead 0 = .ok (.iconst 0, 1) := by decide +kernel
theorem dX11_countAhead_1 : decode cX11_countAhead 1 = .ok (.istore_n 2, 1) := by decide +kernel
theorem dX11_countAhead_2 : decode cX11_countAhead 2 = .ok (.iconst 0, 1) := by decide +kernel
theorem dX11_countAhead_3 : decode cX11_countAhead 3 = .ok (.istore_n 3, 1) := by decide +kernel
theorem dX11_countAhead_4 : decode cX11_countAhead 4 = .ok (.iload_n 3, 1) := by decide +kernel
theorem dX11_countAhead_5 : decode cX11_countAhead 5 = .ok (.bipush 30, 2) := by decide +kernel
theorem dX11_countAhead_7 : decode cX11_countAhead 7 = .ok (.if_icmp .ge 47, 3) := by decide +kernel
theorem dX11_countAhead_10 : decode cX11_countAhead 10 = .ok (.aload_n 0, 1) := by decide +kernel
theorem dX11_countAhead_11 : decode cX11_countAhead 11 = .ok (.getfield 66, 3) := by decide +kernel
theorem dX11_countAhead_14 : decode cX11_countAhead 14 = .ok (.iload_n 3, 1) := by decide +kernel
theorem dX11_countAhead_15 : decode cX11_countAhead 15 = .ok (.iaload, 1) := by decide +kernel
theorem dX11_countAhead_16 : decode cX11_countAhead 16 = .ok (.aload_n 0, 1) := by decide +kernel
theorem dX11_countAhead_17 : decode cX11_countAhead 17 = .ok (.getfield 66, 3) := by decide +kernel
theorem dX11_countAhead_20 : decode cX11_countAhead 20 = .ok (.iload_n 1, 1) := by decide +kernel
theorem dX11_countAhead_21 : decode cX11_countAhead 21 = .ok (.iaload, 1) := by decide +kernel
theorem dX11_countAhead_22 : decode cX11_countAhead 22 = .ok (.if_icmp .gt 23, 3) := by decide +kernel
theorem dX11_countAhead_25 : decode cX11_countAhead 25 = .ok (.iload_n 3, 1) := by decide +kernel
theorem dX11_countAhead_26 : decode cX11_countAhead 26 = .ok (.iload_n 1, 1) := by decide +kernel
theorem dX11_countAhead_27 : decode cX11_countAhead 27 = .ok (.if_icmp .ge 21, 3) := by decide +kernel
theorem dX11_countAhead_30 : decode cX11_countAhead 30 = .ok (.aload_n 0, 1) := by decide +kernel
theorem dX11_countAhead_31 : decode cX11_countAhead 31 = .ok (.getfield 66, 3) := by decide +kernel
theorem dX11_countAhead_34 : decode cX11_countAhead 34 = .ok (.iload_n 3, 1) := by decide +kernel
theorem dX11_countAhead_35 : decode cX11_countAhead 35 = .ok (.iaload, 1) := by decide +kernel
theorem dX11_countAhead_36 : decode cX11_countAhead 36 = .ok (.aload_n 0, 1) := by decide +kernel
theorem dX11_countAhead_37 : decode cX11_countAhead 37 = .ok (.getfield 66, 3) := by decide +kernel
theorem dX11_countAhead_40 : decode cX11_countAhead 40 = .ok (.iload_n 1, 1) := by decide +kernel
theorem dX11_countAhead_41 : decode cX11_countAhead 41 = .ok (.iaload, 1) := by decide +kernel
theorem dX11_countAhead_42 : decode cX11_countAhead 42 = .ok (.if_icmp .ne 6, 3) := by decide +kernel
theorem dX11_countAhead_45 : decode cX11_countAhead 45 = .ok (.iinc 2 1, 3) := by decide +kernel
theorem dX11_countAhead_48 : decode cX11_countAhead 48 = .ok (.iinc 3 1, 3) := by decide +kernel
theorem dX11_countAhead_51 : decode cX11_countAhead 51 = .ok (.goto (-47), 3) := by decide +kernel
theorem dX11_countAhead_54 : decode cX11_countAhead 54 = .ok (.iload_n 2, 1) := by decide +kernel
theorem dX11_countAhead_55 : decode cX11_countAhead 55 = .ok (.ireturn, 1) := by decide +kernel
set_option maxRecDepth 100000 in
set_option maxHeartbeats 4000000 in
theorem kX11_countAhead (l : Launch) (w : wT) (hw : yOk w 55) (σ : Hp) (a1 : Int32) (K : Int32 → Hp → Prop) (hv : VX11_countAhead K σ a1) : yMet l w xcf 55 yX11_countAhead cX11_countAhead 4 (some .int) 1 [.ref (w.1 0), .int a1] σ (yQi w xcf 55 K) := by
  unfold VX11_countAhead at hv
  refine y_start (lv0 := [(0, .ref (w.1 0)), (1, .int a1)]) (by decide +kernel) (own := RX11) rfl hw (Nat.le_of_ble_eq_true rfl) rfl (fun p e s m below meth c A E => ?_)
  have hL4 : ∀ (n4 : Nat) (σ : Hp) (l1 : Int32) (l2 : Int32) (l3 : Int32), VX11_countAhead_L4 K n4 σ l1 l2 l3 → YY p l e (yRm 1) s m [.ref (w.1 0), .int a1].toArray below meth c w xcf 55 A (MQ below (yQi w xcf 55 K A) [.ref (w.1 0), .int a1].toArray s 0 0 A) 4 σ 4 [(0, .ref (w.1 0)), (1, .int l1), (2, .int l2), (3, .int l3)] [] := by
    intro n4
    induction n4 with
    | zero => exact fun _ _ _ _ hv => (by unfold VX11_countAhead_L4 at hv; exact hv.elim)
    | succ n4 ih4 =>
      intro σ l1 l2 l3 hv
      unfold VX11_countAhead_L4 at hv
      refine y_iload_n E dX11_countAhead_4 3 rfl ?_
      refine y_bipush (v := 30) E dX11_countAhead_5 (by decide) ?_
      refine y_icmp_ge (tgt := 54) E dX11_countAhead_7 (by decide) (fun c1 => ?_) (fun c1 => ?_)
      · replace hv := ite_t hv c1
        refine y_iload_n E dX11_countAhead_54 2 rfl ?_
        exact y_iret E dX11_countAhead_55 hv
      · replace hv := ite_f hv c1
        refine y_aload_n E dX11_countAhead_10 0 rfl ?_
        refine gf_X11_13 E (by decide) (by decide) wm_388 dX11_countAhead_11 ?_
        refine y_iload_n E dX11_countAhead_14 3 rfl ?_
        obtain ⟨hi, hv⟩ := hv
        refine y_iald E (Nat.lt_of_lt_of_le (show 54 < 55 by decide) (by decide)) (xc_tally (by decide) (by decide)) hi dX11_countAhead_15 ?_
        refine y_aload_n E dX11_countAhead_16 0 rfl ?_
        refine gf_X11_13 E (by decide) (by decide) wm_388 dX11_countAhead_17 ?_
        refine y_iload_n E dX11_countAhead_20 1 rfl ?_
        obtain ⟨hi, hv⟩ := hv
        refine y_iald E (Nat.lt_of_lt_of_le (show 54 < 55 by decide) (by decide)) (xc_tally (by decide) (by decide)) hi dX11_countAhead_21 ?_
        refine y_icmp_gt (tgt := 45) E dX11_countAhead_22 (by decide) (fun c2 => ?_) (fun c2 => ?_)
        · replace hv := ite_t hv c2
          obtain ⟨x3, hx3⟩ : ∃ z : Int32, z = l2 + 1 := ⟨_, rfl⟩
          replace hv := hv x3 hx3
          refine y_iinc (v := x3) (lv' := [(2, .int x3), (0, .ref (w.1 0)), (1, .int l1), (3, .int l3)]) E dX11_countAhead_45 2 rfl (by rw [hx3]; rfl) (by decide) rfl ?_
          obtain ⟨x4, hx4⟩ : ∃ z : Int32, z = l3 + 1 := ⟨_, rfl⟩
          replace hv := hv x4 hx4
          refine y_iinc (v := x4) (lv' := [(3, .int x4), (2, .int x3), (0, .ref (w.1 0)), (1, .int l1)]) E dX11_countAhead_48 3 rfl (by rw [hx4]; rfl) (by decide) rfl ?_
          refine y_goto (tgt := 4) E dX11_countAhead_51 (by decide) ?_
          refine y_lv (lv' := [(0, .ref (w.1 0)), (1, .int l1), (2, .int x3), (3, .int x4)]) [2, 3, 1, 0] rfl ?_
          exact ih4 σ l1 x3 x4 hv
        · replace hv := ite_f hv c2
          refine y_iload_n E dX11_countAhead_25 3 rfl ?_
          refine y_iload_n E dX11_countAhead_26 1 rfl ?_
          refine y_icmp_ge (tgt := 48) E dX11_countAhead_27 (by decide) (fun c5 => ?_) (fun c5 => ?_)
          · replace hv := ite_t hv c5
            obtain ⟨x6, hx6⟩ : ∃ z : Int32, z = l3 + 1 := ⟨_, rfl⟩
            replace hv := hv x6 hx6
            refine y_iinc (v := x6) (lv' := [(3, .int x6), (0, .ref (w.1 0)), (1, .int l1), (2, .int l2)]) E dX11_countAhead_48 3 rfl (by rw [hx6]; rfl) (by decide) rfl ?_
            refine y_goto (tgt := 4) E dX11_countAhead_51 (by decide) ?_
            refine y_lv (lv' := [(0, .ref (w.1 0)), (1, .int l1), (2, .int l2), (3, .int x6)]) [1, 2, 3, 0] rfl ?_
            exact ih4 σ l1 l2 x6 hv
          · replace hv := ite_f hv c5
            refine y_aload_n E dX11_countAhead_30 0 rfl ?_
            refine gf_X11_13 E (by decide) (by decide) wm_388 dX11_countAhead_31 ?_
            refine y_iload_n E dX11_countAhead_34 3 rfl ?_
            obtain ⟨hi, hv⟩ := hv
            refine y_iald E (Nat.lt_of_lt_of_le (show 54 < 55 by decide) (by decide)) (xc_tally (by decide) (by decide)) hi dX11_countAhead_35 ?_
            refine y_aload_n E dX11_countAhead_36 0 rfl ?_
            refine gf_X11_13 E (by decide) (by decide) wm_388 dX11_countAhead_37 ?_
            refine y_iload_n E dX11_countAhead_40 1 rfl ?_
            obtain ⟨hi, hv⟩ := hv
            refine y_iald E (Nat.lt_of_lt_of_le (show 54 < 55 by decide) (by decide)) (xc_tally (by decide) (by decide)) hi dX11_countAhead_41 ?_
            refine y_icmp_ne (tgt := 48) E dX11_countAhead_42 (by decide) (fun c7 => ?_) (fun c7 => ?_)
            · replace hv := ite_f hv c7
              obtain ⟨x8, hx8⟩ : ∃ z : Int32, z = l3 + 1 := ⟨_, rfl⟩
              replace hv := hv x8 hx8
              refine y_iinc (v := x8) (lv' := [(3, .int x8), (0, .ref (w.1 0)), (1, .int l1), (2, .int l2)]) E dX11_countAhead_48 3 rfl (by rw [hx8]; rfl) (by decide) rfl ?_
              refine y_goto (tgt := 4) E dX11_countAhead_51 (by decide) ?_
              refine y_lv (lv' := [(0, .ref (w.1 0)), (1, .int l1), (2, .int l2), (3, .int x8)]) [1, 2, 3, 0] rfl ?_
              exact ih4 σ l1 l2 x8 hv
            · replace hv := ite_t hv c7
              obtain ⟨x9, hx9⟩ : ∃ z : Int32, z = l2 + 1 := ⟨_, rfl⟩
              replace hv := hv x9 hx9
              refine y_iinc (v := x9) (lv' := [(2, .int x9), (0, .ref (w.1 0)), (1, .int l1), (3, .int l3)]) E dX11_countAhead_45 2 rfl (by rw [hx9]; rfl) (by decide) rfl ?_
              obtain ⟨x10, hx10⟩ : ∃ z : Int32, z = l3 + 1 := ⟨_, rfl⟩
              replace hv := hv x10 hx10
              refine y_iinc (v := x10) (lv' := [(3, .int x10), (2, .int x9), (0, .ref (w.1 0)), (1, .int l1)]) E dX11_countAhead_48 3 rfl (by rw [hx10]; rfl) (by decide) rfl ?_
              refine y_goto (tgt := 4) E dX11_countAhead_51 (by decide) ?_
              refine y_lv (lv' := [(0, .ref (w.1 0)), (1, .int l1), (2, .int x9), (3, .int x10)]) [2, 3, 1, 0] rfl ?_
              exact ih4 σ l1 x9 x10 hv
  refine y_iconst (v := 0) E dX11_countAhead_0 (by decide) ?_
  refine y_istore_n (lv' := [(2, .int 0), (0, .ref (w.1 0)), (1, .int a1)]) E dX11_countAhead_1 (by decide) rfl ?_
  refine y_iconst (v := 0) E dX11_countAhead_2 (by decide) ?_
  refine y_istore_n (lv' := [(3, .int 0), (2, .int 0), (0, .ref (w.1 0)), (1, .int a1)]) E dX11_countAhead_3 (by decide) rfl ?_
  refine y_lv (lv' := [(0, .ref (w.1 0)), (1, .int a1), (2, .int 0), (3, .int 0)]) [2, 3, 1, 0] rfl ?_
  obtain ⟨n0, hv⟩ := hv
  exact hL4 n0 σ a1 0 0 hv
theorem dX11_fraction_0 : decode cX11_fraction 0 = .ok (.iload_n 1, 1) := by decide +kernel
theorem dX11_fraction_1 : decode cX11_fraction 1 = .ok (.istore_n 3, 1) := by decide +kernel
theorem dX11_fraction_2 : decode cX11_fraction 2 = .ok (.iload_n 0, 1) := by decide +kernel
theorem dX11_fraction_3 : decode cX11_fraction 3 = .ok (.istore 4, 2) := by decide +kernel
theorem dX11_fraction_5 : decode cX11_fraction 5 = .ok (.iconst 0, 1) := by decide +kernel
theorem dX11_fraction_6 : decode cX11_fraction 6 = .ok (.istore 5, 2) := by decide +kernel
theorem dX11_fraction_8 : decode cX11_fraction 8 = .ok (.iload 5, 2) := by decide +kernel
theorem dX11_fraction_10 : decode cX11_fraction 10 = .ok (.sipush 1000, 3) := by decide +kernel
theorem dX11_fraction_13 : decode cX11_fraction 13 = .ok (.if_icmp .ge 27, 3) := by decide +kernel
theorem dX11_fraction_16 : decode cX11_fraction 16 = .ok (.iload 4, 2) := by decide +kernel
theorem dX11_fraction_18 : decode cX11_fraction 18 = .ok (.ifCond .eq 22, 3) := by decide +kernel
theorem dX11_fraction_21 : decode cX11_fraction 21 = .ok (.iload_n 3, 1) := by decide +kernel
theorem dX11_fraction_22 : decode cX11_fraction 22 = .ok (.iload 4, 2) := by decide +kernel
theorem dX11_fraction_24 : decode cX11_fraction 24 = .ok (.irem, 1) := by decide +kernel
theorem dX11_fraction_25 : decode cX11_fraction 25 = .ok (.istore 6, 2) := by decide +kernel
theorem dX11_fraction_27 : decode cX11_fraction 27 = .ok (.iload 4, 2) := by decide +kernel
theorem dX11_fraction_29 : decode cX11_fraction 29 = .ok (.istore_n 3, 1) := by decide +kernel
theorem dX11_fraction_30 : decode cX11_fraction 30 = .ok (.iload 6, 2) := by decide +kernel
theorem dX11_fraction_32 : decode cX11_fraction 32 = .ok (.istore 4, 2) := by decide +kernel
theorem dX11_fraction_34 : decode cX11_fraction 34 = .ok (.iinc 5 1, 3) := by decide +kernel
theorem dX11_fraction_37 : decode cX11_fraction 37 = .ok (.goto (-29), 3) := by decide +kernel
theorem dX11_fraction_40 : decode cX11_fraction 40 = .ok (.iload_n 3, 1) := by decide +kernel
theorem dX11_fraction_41 : decode cX11_fraction 41 = .ok (.ifCond .ne 7, 3) := by decide +kernel
theorem dX11_fraction_44 : decode cX11_fraction 44 = .ok (.ldc2_w 242, 3) := by decide +kernel
theorem dX11_fraction_47 : decode cX11_fraction 47 = .ok (.lreturn, 1) := by decide +kernel
theorem dX11_fraction_48 : decode cX11_fraction 48 = .ok (.iload_n 2, 1) := by decide +kernel
theorem dX11_fraction_49 : decode cX11_fraction 49 = .ok (.ifCond .ne 7, 3) := by decide +kernel
theorem dX11_fraction_52 : decode cX11_fraction 52 = .ok (.iload_n 0, 1) := by decide +kernel
theorem dX11_fraction_53 : decode cX11_fraction 53 = .ok (.goto 4, 3) := by decide +kernel
theorem dX11_fraction_56 : decode cX11_fraction 56 = .ok (.iload_n 1, 1) := by decide +kernel
theorem dX11_fraction_57 : decode cX11_fraction 57 = .ok (.iload_n 3, 1) := by decide +kernel
theorem dX11_fraction_58 : decode cX11_fraction 58 = .ok (.idiv, 1) := by decide +kernel
theorem dX11_fraction_59 : decode cX11_fraction 59 = .ok (.i2l, 1) := by decide +kernel
theorem dX11_fraction_60 : decode cX11_fraction 60 = .ok (.lreturn, 1) := by decide +kernel
set_option maxRecDepth 100000 in
set_option maxHeartbeats 4000000 in
theorem kX11_fraction (l : Launch) (w : wT) (hw : yOk w 55) (σ : Hp) (a1 : Int32) (a2 : Int32) (a3 : Int32) (K : Int64 → Hp → Prop) (hv : VX11_fraction K σ a1 a2 a3) : yMet l w xcf 55 yX11_fraction cX11_fraction 7 (some .long) 1 [.int a1, .int a2, .int a3] σ (yQl w xcf 55 K) := by
  unfold VX11_fraction at hv
  refine y_start (lv0 := [(0, .int a1), (1, .int a2), (2, .int a3)]) (by decide +kernel) (own := RX11) rfl hw (Nat.le_of_ble_eq_true rfl) rfl (fun p e s m below meth c A E => ?_)
  have hb40 : ∀ (σ : Hp) (l0 : Int32) (l1 : Int32) (l2 : Int32) (l3 : Int32), VX11_fraction_b40 K σ l0 l1 l2 l3 → YY p l e (yRm 1) s m [.int a1, .int a2, .int a3].toArray below meth c w xcf 55 A (MQ below (yQl w xcf 55 K A) [.int a1, .int a2, .int a3].toArray s 0 0 A) 7 σ 40 [(0, .int l0), (1, .int l1), (2, .int l2), (3, .int l3)] [] := by
    intro σ l0 l1 l2 l3 hv
    unfold VX11_fraction_b40 at hv
    refine y_iload_n E dX11_fraction_40 3 rfl ?_
    refine y_if_ne (tgt := 48) E dX11_fraction_41 (by decide) (fun c5 => ?_) (fun c5 => ?_)
    · replace hv := ite_f hv c5
      refine y_iload_n E dX11_fraction_48 2 rfl ?_
      refine y_if_ne (tgt := 56) E dX11_fraction_49 (by decide) (fun c6 => ?_) (fun c6 => ?_)
      · replace hv := ite_f hv c6
        refine y_iload_n E dX11_fraction_56 1 rfl ?_
        refine y_iload_n E dX11_fraction_57 3 rfl ?_
        obtain ⟨hz, hv⟩ := hv
        refine y_idiv E dX11_fraction_58 hz ?_
        refine y_i2l E dX11_fraction_59 ?_
        exact y_lret E dX11_fraction_60 hv
      · replace hv := ite_t hv c6
        refine y_iload_n E dX11_fraction_52 0 rfl ?_
        refine y_goto (tgt := 57) E dX11_fraction_53 (by decide) ?_
        refine y_iload_n E dX11_fraction_57 3 rfl ?_
        obtain ⟨hz, hv⟩ := hv
        refine y_idiv E dX11_fraction_58 hz ?_
        refine y_i2l E dX11_fraction_59 ?_
        exact y_lret E dX11_fraction_60 hv
    · replace hv := ite_t hv c5
      refine y_ldc2 (v := (-4611686018427387904)) E wm_389 dX11_fraction_44 ?_
      exact y_lret E dX11_fraction_47 hv
  have hL8 : ∀ (n8 : Nat) (σ : Hp) (l0 : Int32) (l1 : Int32) (l2 : Int32) (l3 : Int32) (l4 : Int32) (l5 : Int32), VX11_fraction_L8 K n8 σ l0 l1 l2 l3 l4 l5 → YY p l e (yRm 1) s m [.int a1, .int a2, .int a3].toArray below meth c w xcf 55 A (MQ below (yQl w xcf 55 K A) [.int a1, .int a2, .int a3].toArray s 0 0 A) 7 σ 8 [(0, .int l0), (1, .int l1), (2, .int l2), (3, .int l3), (4, .int l4), (5, .int l5)] [] := by
    intro n8
    induction n8 with
    | zero => exact fun _ _ _ _ _ _ _ hv => (by unfold VX11_fraction_L8 at hv; exact hv.elim)
    | succ n8 ih8 =>
      intro σ l0 l1 l2 l3 l4 l5 hv
      unfold VX11_fraction_L8 at hv
      refine y_iload E dX11_fraction_8 5 rfl ?_
      refine y_sipush (v := 1000) E dX11_fraction_10 (by decide) ?_
      refine y_icmp_ge (tgt := 40) E dX11_fraction_13 (by decide) (fun c1 => ?_) (fun c1 => ?_)
      · replace hv := ite_t hv c1
        refine y_lv (lv' := [(0, .int l0), (1, .int l1), (2, .int l2), (3, .int l3)]) [0, 1, 2, 3] rfl ?_
        exact hb40 σ l0 l1 l2 l3 hv
      · replace hv := ite_f hv c1
        refine y_iload E dX11_fraction_16 4 rfl ?_
        refine y_if_eq (tgt := 40) E dX11_fraction_18 (by decide) (fun c2 => ?_) (fun c2 => ?_)
        · replace hv := ite_t hv c2
          refine y_lv (lv' := [(0, .int l0), (1, .int l1), (2, .int l2), (3, .int l3)]) [0, 1, 2, 3] rfl ?_
          exact hb40 σ l0 l1 l2 l3 hv
        · replace hv := ite_f hv c2
          refine y_iload_n E dX11_fraction_21 3 rfl ?_
          refine y_iload E dX11_fraction_22 4 rfl ?_
          obtain ⟨hz, hv⟩ := hv
          refine y_irem E dX11_fraction_24 hz ?_
          refine y_nmi (fun x3 hx3 => ?_)
          replace hv := hv x3 hx3
          refine y_istore (lv' := [(6, .int x3), (0, .int l0), (1, .int l1), (2, .int l2), (3, .int l3), (4, .int l4), (5, .int l5)]) E dX11_fraction_25 (by decide) rfl ?_
          refine y_iload E dX11_fraction_27 5 rfl ?_
          refine y_istore_n (lv' := [(3, .int l4), (6, .int x3), (0, .int l0), (1, .int l1), (2, .int l2), (4, .int l4), (5, .int l5)]) E dX11_fraction_29 (by decide) rfl ?_
          refine y_iload E dX11_fraction_30 1 rfl ?_
          refine y_istore (lv' := [(4, .int x3), (3, .int l4), (6, .int x3), (0, .int l0), (1, .int l1), (2, .int l2), (5, .int l5)]) E dX11_fraction_32 (by decide) rfl ?_
          obtain ⟨x4, hx4⟩ : ∃ z : Int32, z = l5 + 1 := ⟨_, rfl⟩
          replace hv := hv x4 hx4
          refine y_iinc (v := x4) (lv' := [(5, .int x4), (4, .int x3), (3, .int l4), (6, .int x3), (0, .int l0), (1, .int l1), (2, .int l2)]) E dX11_fraction_34 6 rfl (by rw [hx4]; rfl) (by decide) rfl ?_
          refine y_goto (tgt := 8) E dX11_fraction_37 (by decide) ?_
          refine y_lv (lv' := [(0, .int l0), (1, .int l1), (2, .int l2), (3, .int l4), (4, .int x3), (5, .int x4)]) [4, 5, 6, 2, 1, 0] rfl ?_
          exact ih8 σ l0 l1 l2 l4 x3 x4 hv
  refine y_iload_n E dX11_fraction_0 1 rfl ?_
  refine y_istore_n (lv' := [(3, .int a2), (0, .int a1), (1, .int a2), (2, .int a3)]) E dX11_fraction_1 (by decide) rfl ?_
  refine y_iload_n E dX11_fraction_2 1 rfl ?_
  refine y_istore (lv' := [(4, .int a1), (3, .int a2), (0, .int a1), (1, .int a2), (2, .int a3)]) E dX11_fraction_3 (by decide) rfl ?_
  refine y_iconst (v := 0) E dX11_fraction_5 (by decide) ?_
  refine y_istore (lv' := [(5, .int 0), (4, .int a1), (3, .int a2), (0, .int a1), (1, .int a2), (2, .int a3)]) E dX11_fraction_6 (by decide) rfl ?_
  refine y_lv (lv' := [(0, .int a1), (1, .int a2), (2, .int a3), (3, .int a2), (4, .int a1), (5, .int 0)]) [3, 4, 5, 2, 1, 0] rfl ?_
  obtain ⟨n0, hv⟩ := hv
  exact hL8 n0 σ a1 a2 a3 a2 a1 0 hv
theorem dX11_search_0 : decode cX11_search 0 = .ok (.aload_n 0, 1) := by decide +kernel
theorem dX11_search_1 : decode cX11_search 1 = .ok (.iload_n 1, 1) := by decide +kernel
theorem dX11_search_2 : decode cX11_search 2 = .ok (.invokevirtual 175, 3) := by decide +kernel
theorem dX11_search_5 : decode cX11_search 5 = .ok (.ifCond .eq 17, 3) := by decide +kernel
theorem dX11_search_8 : decode cX11_search 8 = .ok (.iload_n 2, 1) := by decide +kernel
theorem dX11_search_9 : decode cX11_search 9 = .ok (.invokestatic 178, 3) := by decide +kernel
theorem dX11_search_12 : decode cX11_search 12 = .ok (.ifCond .eq 10, 3) := by decide +kernel
theorem dX11_search_15 : decode cX11_search 15 = .ok (.iload_n 3, 1) := by decide +kernel
theorem dX11_search_16 : decode cX11_search 16 = .ok (.invokestatic 181, 3) := by decide +kernel
theorem dX11_search_19 : decode cX11_search 19 = .ok (.ifCond .ne 7, 3) := by decide +kernel
theorem dX11_search_22 : decode cX11_search 22 = .ok (.ldc2_w 242, 3) := by decide +kernel
theorem dX11_search_25 : decode cX11_search 25 = .ok (.lreturn, 1) := by decide +kernel
theorem dX11_search_26 : decode cX11_search 26 = .ok (.aload_n 0, 1) := by decide +kernel
theorem dX11_search_27 : decode cX11_search 27 = .ok (.iload_n 1, 1) := by decide +kernel
theorem dX11_search_28 : decode cX11_search 28 = .ok (.iload_n 2, 1) := by decide +kernel
theorem dX11_search_29 : decode cX11_search 29 = .ok (.invokevirtual 239, 3) := by decide +kernel
theorem dX11_search_32 : decode cX11_search 32 = .ok (.iconst 0, 1) := by decide +kernel
theorem dX11_search_33 : decode cX11_search 33 = .ok (.istore 4, 2) := by decide +kernel
theorem dX11_search_35 : decode cX11_search 35 = .ok (.iconst 0, 1) := by decide +kernel
theorem dX11_search_36 : decode cX11_search 36 = .ok (.istore 5, 2) := by decide +kernel
theorem dX11_search_38 : decode cX11_search 38 = .ok (.iload 5, 2) := by decide +kernel
theorem dX11_search_40 : decode cX11_search 40 = .ok (.bipush 30, 2) := by decide +kernel
theorem dX11_search_42 : decode cX11_search 42 = .ok (.if_icmp .ge 30, 3) := by decide +kernel
theorem dX11_search_45 : decode cX11_search 45 = .ok (.iload 4, 2) := by decide +kernel
theorem dX11_search_47 : decode cX11_search 47 = .ok (.aload_n 0, 1) := by decide +kernel
theorem dX11_search_48 : decode cX11_search 48 = .ok (.getfield 66, 3) := by decide +kernel
theorem dX11_search_51 : decode cX11_search 51 = .ok (.iload 5, 2) := by decide +kernel
theorem dX11_search_53 : decode cX11_search 53 = .ok (.iaload, 1) := by decide +kernel
theorem dX11_search_54 : decode cX11_search 54 = .ok (.iconst 1, 1) := by decide +kernel
theorem dX11_search_55 : decode cX11_search 55 = .ok (.aload_n 0, 1) := by decide +kernel
theorem dX11_search_56 : decode cX11_search 56 = .ok (.iload 5, 2) := by decide +kernel
theorem dX11_search_58 : decode cX11_search 58 = .ok (.invokevirtual 244, 3) := by decide +kernel
theorem dX11_search_61 : decode cX11_search 61 = .ok (.iadd, 1) := by decide +kernel
theorem dX11_search_62 : decode cX11_search 62 = .ok (.imul, 1) := by decide +kernel
theorem dX11_search_63 : decode cX11_search 63 = .ok (.iadd, 1) := by decide +kernel
theorem dX11_search_64 : decode cX11_search 64 = .ok (.istore 4, 2) := by decide +kernel
theorem dX11_search_66 : decode cX11_search 66 = .ok (.iinc 5 1, 3) := by decide +kernel
theorem dX11_search_69 : decode cX11_search 69 = .ok (.goto (-31), 3) := by decide +kernel
theorem dX11_search_72 : decode cX11_search 72 = .ok (.iload 4, 2) := by decide +kernel
theorem dX11_search_74 : decode cX11_search 74 = .ok (.iconst 5, 1) := by decide +kernel
theorem dX11_search_75 : decode cX11_search 75 = .ok (.iload_n 3, 1) := by decide +kernel
theorem dX11_search_76 : decode cX11_search 76 = .ok (.invokestatic 247, 3) := by decide +kernel
theorem dX11_search_79 : decode cX11_search 79 = .ok (.lreturn, 1) := by decide +kernel
set_option maxRecDepth 100000 in
set_option maxHeartbeats 4000000 in
theorem kX11_search (l : Launch) (w : wT) (hw : yOk w 55) (σ : Hp) (a1 : Int32) (a2 : Int32) (a3 : Int32) (K : Int64 → Hp → Prop) (hv : VX11_search K σ a1 a2 a3) : yMet l w xcf 55 yX11_search cX11_search 6 (some .long) 7 [.ref (w.1 0), .int a1, .int a2, .int a3] σ (yQl w xcf 55 K) := by
  unfold VX11_search at hv
  refine y_start (lv0 := [(0, .ref (w.1 0)), (1, .int a1), (2, .int a2), (3, .int a3)]) (by decide +kernel) (own := RX11) rfl hw (Nat.le_of_ble_eq_true rfl) rfl (fun p e s m below meth c A E => ?_)
  have hL38 : ∀ (n38 : Nat) (σ : Hp) (l3 : Int32) (l4 : Int32) (l5 : Int32), VX11_search_L38 K n38 σ l3 l4 l5 → YY p l e (yRm 7) s m [.ref (w.1 0), .int a1, .int a2, .int a3].toArray below meth c w xcf 55 A (MQ below (yQl w xcf 55 K A) [.ref (w.1 0), .int a1, .int a2, .int a3].toArray s 0 0 A) 6 σ 38 [(0, .ref (w.1 0)), (3, .int l3), (4, .int l4), (5, .int l5)] [] := by
    intro n38
    induction n38 with
    | zero => exact fun _ _ _ _ hv => (by unfold VX11_search_L38 at hv; exact hv.elim)
    | succ n38 ih38 =>
      intro σ l3 l4 l5 hv
      unfold VX11_search_L38 at hv
      refine y_iload E dX11_search_38 3 rfl ?_
      refine y_bipush (v := 30) E dX11_search_40 (by decide) ?_
      refine y_icmp_ge (tgt := 72) E dX11_search_42 (by decide) (fun c12 => ?_) (fun c12 => ?_)
      · replace hv := ite_t hv c12
        refine y_iload E dX11_search_72 2 rfl ?_
        refine y_iconst (v := 5) E dX11_search_74 (by decide) ?_
        refine y_iload_n E dX11_search_75 1 rfl ?_
        refine y_calll E (y_runS E (rest := []) (kX11_fraction l w E.2.2.1 σ l4 5 l3 _ hv) (y_cwS 3 E.1.2.2.2.2 wm_390 wm_391 wm_116 wm_392 (by decide +kernel) (yRm_le (by decide) (by decide))) rfl rfl (Nat.le_of_ble_eq_true rfl) dX11_search_76) (fun v13 u14 hk => ?_)
        clear hv
        have hv := hk
        clear hk
        exact y_lret E dX11_search_79 hv
      · replace hv := ite_f hv c12
        refine y_iload E dX11_search_45 2 rfl ?_
        refine y_aload_n E dX11_search_47 0 rfl ?_
        refine gf_X11_13 E (by decide) (by decide) wm_388 dX11_search_48 ?_
        refine y_iload E dX11_search_51 3 rfl ?_
        obtain ⟨hi, hv⟩ := hv
        refine y_iald E (Nat.lt_of_lt_of_le (show 54 < 55 by decide) (by decide)) (xc_tally (by decide) (by decide)) hi dX11_search_53 ?_
        refine y_iconst (v := 1) E dX11_search_54 (by decide) ?_
        refine y_aload_n E dX11_search_55 0 rfl ?_
        refine y_iload E dX11_search_56 3 rfl ?_
        refine y_calli E (y_runV E (rest := [.int 1, .int (σ 54 l5.toNatClampNeg), .int l4]) (kX11_countAhead l w E.2.2.1 σ l5 _ hv) (y_cwV 1 E.1.2.2.2.2 wm_393 wm_394 wm_395 wm_116 wm_396 (by decide +kernel) (yRm_le (by decide) (by decide))) (Nat.lt_of_lt_of_le (show 0 < 1 by decide) (by decide)) (xc_X11 (by decide) (by decide)) rfl rfl rfl (Nat.le_of_ble_eq_true rfl) dX11_search_58) (fun v15 u16 hk => ?_)
        clear hv
        have hv := hk
        clear hk
        refine y_iadd E dX11_search_61 ?_
        refine y_imul E dX11_search_62 ?_
        refine y_iadd E dX11_search_63 ?_
        refine y_nmi (fun x17 hx17 => ?_)
        replace hv := hv x17 hx17
        refine y_istore (lv' := [(4, .int x17), (0, .ref (w.1 0)), (3, .int l3), (5, .int l5)]) E dX11_search_64 (by decide) rfl ?_
        obtain ⟨x18, hx18⟩ : ∃ z : Int32, z = l5 + 1 := ⟨_, rfl⟩
        replace hv := hv x18 hx18
        refine y_iinc (v := x18) (lv' := [(5, .int x18), (4, .int x17), (0, .ref (w.1 0)), (3, .int l3)]) E dX11_search_66 3 rfl (by rw [hx18]; rfl) (by decide) rfl ?_
        refine y_goto (tgt := 38) E dX11_search_69 (by decide) ?_
        refine y_lv (lv' := [(0, .ref (w.1 0)), (3, .int l3), (4, .int x17), (5, .int x18)]) [2, 3, 1, 0] rfl ?_
        exact ih38 u16 l3 x17 x18 hv
  refine y_aload_n E dX11_search_0 0 rfl ?_
  refine y_iload_n E dX11_search_1 1 rfl ?_
  refine y_calli E (y_runV E (rest := []) (kX11_isThing l w E.2.2.1 σ a1 _ hv) (y_cwV 1 E.1.2.2.2.2 wm_322 wm_323 wm_324 wm_116 wm_325 (by decide +kernel) (yRm_le (by decide) (by decide))) (Nat.lt_of_lt_of_le (show 0 < 1 by decide) (by decide)) (xc_X11 (by decide) (by decide)) rfl rfl rfl (Nat.le_of_ble_eq_true rfl) dX11_search_2) (fun v1 u2 hk => ?_)
  clear hv
  have hv := hk
  clear hk
  refine y_if_eq (tgt := 22) E dX11_search_5 (by decide) (fun c3 => ?_) (fun c3 => ?_)
  · replace hv := ite_t hv c3
    refine y_ldc2 (v := (-4611686018427387904)) E wm_389 dX11_search_22 ?_
    exact y_lret E dX11_search_25 hv
  · replace hv := ite_f hv c3
    refine y_iload_n E dX11_search_8 2 rfl ?_
    refine y_calli E (y_runS E (rest := []) (kX11_isBehind l w E.2.2.1 u2 a2 _ hv) (y_cwS 1 E.1.2.2.2.2 wm_326 wm_336 wm_116 wm_337 (by decide +kernel) (yRm_le (by decide) (by decide))) rfl rfl (Nat.le_of_ble_eq_true rfl) dX11_search_9) (fun v4 u5 hk => ?_)
    clear hv
    have hv := hk
    clear hk
    refine y_if_eq (tgt := 22) E dX11_search_12 (by decide) (fun c6 => ?_) (fun c6 => ?_)
    · replace hv := ite_t hv c6
      refine y_ldc2 (v := (-4611686018427387904)) E wm_389 dX11_search_22 ?_
      exact y_lret E dX11_search_25 hv
    · replace hv := ite_f hv c6
      refine y_iload_n E dX11_search_15 3 rfl ?_
      refine y_calli E (y_runS E (rest := []) (kX11_isChoice l w E.2.2.1 u5 a3 _ hv) (y_cwS 1 E.1.2.2.2.2 wm_327 wm_334 wm_116 wm_335 (by decide +kernel) (yRm_le (by decide) (by decide))) rfl rfl (Nat.le_of_ble_eq_true rfl) dX11_search_16) (fun v7 u8 hk => ?_)
      clear hv
      have hv := hk
      clear hk
      refine y_if_ne (tgt := 26) E dX11_search_19 (by decide) (fun c9 => ?_) (fun c9 => ?_)
      · replace hv := ite_f hv c9
        refine y_aload_n E dX11_search_26 0 rfl ?_
        refine y_iload_n E dX11_search_27 1 rfl ?_
        refine y_iload_n E dX11_search_28 2 rfl ?_
        refine y_callv E (y_runV E (rest := []) (kX11_tallyEnds l w E.2.2.1 u8 a1 a2 _ hv) (y_cwV 2 E.1.2.2.2.2 wm_384 wm_385 wm_386 wm_116 wm_387 (by decide +kernel) (yRm_le (by decide) (by decide))) (Nat.lt_of_lt_of_le (show 0 < 1 by decide) (by decide)) (xc_X11 (by decide) (by decide)) rfl rfl rfl (Nat.le_of_ble_eq_true rfl) dX11_search_29) (fun u11 hk => ?_)
        clear hv
        have hv := hk
        clear hk
        refine y_iconst (v := 0) E dX11_search_32 (by decide) ?_
        refine y_istore (lv' := [(4, .int 0), (0, .ref (w.1 0)), (1, .int a1), (2, .int a2), (3, .int a3)]) E dX11_search_33 (by decide) rfl ?_
        refine y_iconst (v := 0) E dX11_search_35 (by decide) ?_
        refine y_istore (lv' := [(5, .int 0), (4, .int 0), (0, .ref (w.1 0)), (1, .int a1), (2, .int a2), (3, .int a3)]) E dX11_search_36 (by decide) rfl ?_
        refine y_lv (lv' := [(0, .ref (w.1 0)), (3, .int a3), (4, .int 0), (5, .int 0)]) [2, 5, 1, 0] rfl ?_
        obtain ⟨n0, hv⟩ := hv
        exact hL38 n0 u11 a3 0 0 hv
      · replace hv := ite_t hv c9
        refine y_ldc2 (v := (-4611686018427387904)) E wm_389 dX11_search_22 ?_
        exact y_lret E dX11_search_25 hv
theorem dX11_firstElsewhere_0 : decode cX11_firstElsewhere 0 = .ok (.iconst 0, 1) := by decide +kernel
theorem dX11_firstElsewhere_1 : decode cX11_firstElsewhere 1 = .ok (.istore 4, 2) := by decide +kernel
theorem dX11_firstElsewhere_3 : decode cX11_firstElsewhere 3 = .ok (.iload 4, 2) := by decide +kernel
theorem dX11_firstElsewhere_5 : decode cX11_firstElsewhere 5 = .ok (.aload_n 0, 1) := by decide +kernel
theorem dX11_firstElsewhere_6 : decode cX11_firstElsewhere 6 = .ok (.getfield 12, 3) := by decide +kernel
theorem dX11_firstElsewhere_9 : decode cX11_firstElsewhere 9 = .ok (.getfield 122, 3) := by decide +kernel
theorem dX11_firstElsewhere_12 : decode cX11_firstElsewhere 12 = .ok (.if_icmp .ge 59, 3) := by decide +kernel
theorem dX11_firstElsewhere_15 : decode cX11_firstElsewhere 15 = .ok (.aload_n 0, 1) := by decide +kernel
theorem dX11_firstElsewhere_16 : decode cX11_firstElsewhere 16 = .ok (.iload 4, 2) := by decide +kernel
theorem dX11_firstElsewhere_18 : decode cX11_firstElsewhere 18 = .ok (.invokevirtual 200, 3) := by decide +kernel
theorem dX11_firstElsewhere_21 : decode cX11_firstElsewhere 21 = .ok (.astore 5, 2) := by decide +kernel
theorem dX11_firstElsewhere_23 : decode cX11_firstElsewhere 23 = .ok (.aload 5, 2) := by decide +kernel
theorem dX11_firstElsewhere_25 : decode cX11_firstElsewhere 25 = .ok (.aload_n 3, 1) := by decide +kernel
theorem dX11_firstElsewhere_26 : decode cX11_firstElsewhere 26 = .ok (.putfield 311, 3) := by decide +kernel
theorem dX11_firstElsewhere_29 : decode cX11_firstElsewhere 29 = .ok (.aload 5, 2) := by decide +kernel
theorem dX11_firstElsewhere_31 : decode cX11_firstElsewhere 31 = .ok (.aload_n 0, 1) := by decide +kernel
theorem dX11_firstElsewhere_32 : decode cX11_firstElsewhere 32 = .ok (.getfield 12, 3) := by decide +kernel
theorem dX11_firstElsewhere_35 : decode cX11_firstElsewhere 35 = .ok (.getfield 119, 3) := by decide +kernel
theorem dX11_firstElsewhere_38 : decode cX11_firstElsewhere 38 = .ok (.iload_n 2, 1) := by decide +kernel
theorem dX11_firstElsewhere_39 : decode cX11_firstElsewhere 39 = .ok (.invokevirtual 325, 3) := by decide +kernel
theorem dX11_firstElsewhere_42 : decode cX11_firstElsewhere 42 = .ok (.aload 5, 2) := by decide +kernel
theorem dX11_firstElsewhere_44 : decode cX11_firstElsewhere 44 = .ok (.getfield 188, 3) := by decide +kernel
theorem dX11_firstElsewhere_47 : decode cX11_firstElsewhere 47 = .ok (.aload_n 0, 1) := by decide +kernel
theorem dX11_firstElsewhere_48 : decode cX11_firstElsewhere 48 = .ok (.getfield 40, 3) := by decide +kernel
theorem dX11_firstElsewhere_51 : decode cX11_firstElsewhere 51 = .ok (.iload_n 1, 1) := by decide +kernel
theorem dX11_firstElsewhere_52 : decode cX11_firstElsewhere 52 = .ok (.aaload, 1) := by decide +kernel
theorem dX11_firstElsewhere_53 : decode cX11_firstElsewhere 53 = .ok (.getfield 260, 3) := by decide +kernel
theorem dX11_firstElsewhere_56 : decode cX11_firstElsewhere 56 = .ok (.iload 4, 2) := by decide +kernel
theorem dX11_firstElsewhere_58 : decode cX11_firstElsewhere 58 = .ok (.iaload, 1) := by decide +kernel
theorem dX11_firstElsewhere_59 : decode cX11_firstElsewhere 59 = .ok (.if_icmp .eq 6, 3) := by decide +kernel
theorem dX11_firstElsewhere_62 : decode cX11_firstElsewhere 62 = .ok (.iload 4, 2) := by decide +kernel
theorem dX11_firstElsewhere_64 : decode cX11_firstElsewhere 64 = .ok (.ireturn, 1) := by decide +kernel
theorem dX11_firstElsewhere_65 : decode cX11_firstElsewhere 65 = .ok (.iinc 4 1, 3) := by decide +kernel
theorem dX11_firstElsewhere_68 : decode cX11_firstElsewhere 68 = .ok (.goto (-65), 3) := by decide +kernel
theorem dX11_firstElsewhere_71 : decode cX11_firstElsewhere 71 = .ok (.iconst (-1), 1) := by decide +kernel
theorem dX11_firstElsewhere_72 : decode cX11_firstElsewhere 72 = .ok (.ireturn, 1) := by decide +kernel
set_option maxRecDepth 100000 in
set_option maxHeartbeats 4000000 in
theorem kX11_firstElsewhere (l : Launch) (w : wT) (hw : yOk w 55) (σ : Hp) (a1 : Int32) (a2 : Int32) (a3 : Nat) (K : Int32 → Hp → Prop) (hv : VX11_firstElsewhere K σ a1 a2 a3) : yMet l w xcf 55 yX11_firstElsewhere cX11_firstElsewhere 6 (some .int) 5 [.ref (w.1 0), .int a1, .int a2, .ref (w.1 a3)] σ (yQi w xcf 55 K) := by
  unfold VX11_firstElsewhere at hv
  refine y_start (lv0 := [(0, .ref (w.1 0)), (1, .int a1), (2, .int a2), (3, .ref (w.1 a3))]) (by decide +kernel) (own := RX11) rfl hw (Nat.le_of_ble_eq_true rfl) rfl (fun p e s m below meth c A E => ?_)
  obtain ⟨hga3, hv⟩ := hv
  have hL3 : ∀ (n3 : Nat) (σ : Hp) (l1 : Int32) (l2 : Int32) (l4 : Int32), VX11_firstElsewhere_L3 K a3 n3 σ l1 l2 l4 → YY p l e (yRm 5) s m [.ref (w.1 0), .int a1, .int a2, .ref (w.1 a3)].toArray below meth c w xcf 55 A (MQ below (yQi w xcf 55 K A) [.ref (w.1 0), .int a1, .int a2, .ref (w.1 a3)].toArray s 0 0 A) 6 σ 3 [(0, .ref (w.1 0)), (1, .int l1), (2, .int l2), (3, .ref (w.1 a3)), (4, .int l4)] [] := by
    intro n3
    induction n3 with
    | zero => exact fun _ _ _ _ hv => (by unfold VX11_firstElsewhere_L3 at hv; exact hv.elim)
    | succ n3 ih3 =>
      intro σ l1 l2 l4 hv
      unfold VX11_firstElsewhere_L3 at hv
      refine y_iload E dX11_firstElsewhere_3 4 rfl ?_
      refine y_aload_n E dX11_firstElsewhere_5 0 rfl ?_
      refine gf_X11_0 E (by decide) (by decide) wm_272 dX11_firstElsewhere_6 ?_
      refine gf_X3_5 E (by decide) (by decide) wm_286 dX11_firstElsewhere_9 ?_
      refine y_icmp_ge (tgt := 71) E dX11_firstElsewhere_12 (by decide) (fun c1 => ?_) (fun c1 => ?_)
      · replace hv := ite_t hv c1
        refine y_iconst (v := (-1)) E dX11_firstElsewhere_71 (by decide) ?_
        exact y_iret E dX11_firstElsewhere_72 hv
      · replace hv := ite_f hv c1
        refine y_aload_n E dX11_firstElsewhere_15 0 rfl ?_
        refine y_iload E dX11_firstElsewhere_16 4 rfl ?_
        refine y_callr E (y_runV E (rest := []) (kX11_lift l w E.2.2.1 σ l4 _ hv) (y_cwV 1 E.1.2.2.2.2 wm_339 wm_348 wm_349 wm_116 wm_350 (by decide +kernel) (yRm_le (by decide) (by decide))) (Nat.lt_of_lt_of_le (show 0 < 1 by decide) (by decide)) (xc_X11 (by decide) (by decide)) rfl rfl rfl (Nat.le_of_ble_eq_true rfl) dX11_firstElsewhere_18) (fun v2 u3 hk => ?_)
        clear hv
        have hv := hk
        clear hk
        obtain ⟨rfl, hv⟩ := hv
        refine y_astore (lv' := [(5, .ref (w.1 49)), (0, .ref (w.1 0)), (1, .int l1), (2, .int l2), (3, .ref (w.1 a3)), (4, .int l4)]) E dX11_firstElsewhere_21 (by decide) rfl ?_
        refine y_aload E dX11_firstElsewhere_23 0 rfl ?_
        refine y_aload_n E dX11_firstElsewhere_25 4 rfl ?_
        refine pf_X1_1 E (by decide) (by decide) (Nat.lt_of_lt_of_le hga3.2 (by decide)) wm_458 dX11_firstElsewhere_26 ?_
        refine y_nmH (fun u4 hu4 => ?_)
        replace hv := hv u4 hu4
        refine y_aload E dX11_firstElsewhere_29 0 rfl ?_
        refine y_aload_n E dX11_firstElsewhere_31 1 rfl ?_
        refine gf_X11_0 E (by decide) (by decide) wm_272 dX11_firstElsewhere_32 ?_
        refine gf_X3_3 E (by decide) (by decide) wm_283 dX11_firstElsewhere_35 ?_
        refine y_iload_n E dX11_firstElsewhere_38 3 rfl ?_
        refine y_callv E (y_runV E (rest := []) (kX1_passAll l w E.2.2.1 u4 (u4 1 3) l2 _ hv) (y_cwV 2 E.1.2.2.2.2 wm_464 wm_465 wm_466 wm_98 wm_467 (by decide +kernel) (yRm_le (by decide) (by decide))) (Nat.lt_of_lt_of_le (show 49 < 50 by decide) (by decide)) (xc_X1 (by decide) (by decide)) rfl rfl rfl (Nat.le_of_ble_eq_true rfl) dX11_firstElsewhere_39) (fun u6 hk => ?_)
        clear hv
        have hv := hk
        clear hk
        refine y_aload E dX11_firstElsewhere_42 0 rfl ?_
        refine gf_X1_6 E (by decide) (by decide) wm_330 dX11_firstElsewhere_44 ?_
        refine y_aload_n E dX11_firstElsewhere_47 1 rfl ?_
        refine gf_X11_7 E (by decide) (by decide) wm_406 dX11_firstElsewhere_48 ?_
        refine y_iload_n E dX11_firstElsewhere_51 2 rfl ?_
        obtain ⟨hi, hv⟩ := hv
        refine y_aald (t0 := 2) E (by decide) (xc_rsheets (by decide) (by decide)) rfl hi dX11_firstElsewhere_52 ?_
        refine y_nmr (fun x7 hx7 => ?_)
        replace hv := hv x7 hx7
        have hgx7 : 41 ≤ x7 ∧ x7 < 45 := by have := vp_in_lt hi; omega
        obtain ⟨x8, hx8⟩ : ∃ z : Nat, z = 45 + 1 * (x7 - 41) := ⟨_, rfl⟩
        replace hv := hv x8 hx8
        have hgx8 : 45 ≤ x8 ∧ x8 < 49 := by omega
        refine gf_X6_0 (q := x8) E hgx7.1 hgx7.2 hx8.symm wm_407 dX11_firstElsewhere_53 ?_
        refine y_iload E dX11_firstElsewhere_56 5 rfl ?_
        obtain ⟨hi, hv⟩ := hv
        refine y_iald E (Nat.lt_of_lt_of_le hgx8.2 (by decide)) (xc_numbers hgx8.1 hgx8.2) hi dX11_firstElsewhere_58 ?_
        refine y_icmp_eq (tgt := 65) E dX11_firstElsewhere_59 (by decide) (fun c9 => ?_) (fun c9 => ?_)
        · replace hv := ite_t hv c9
          obtain ⟨x10, hx10⟩ : ∃ z : Int32, z = l4 + 1 := ⟨_, rfl⟩
          replace hv := hv x10 hx10
          refine y_iinc (v := x10) (lv' := [(4, .int x10), (5, .ref (w.1 49)), (0, .ref (w.1 0)), (1, .int l1), (2, .int l2), (3, .ref (w.1 a3))]) E dX11_firstElsewhere_65 5 rfl (by rw [hx10]; rfl) (by decide) rfl ?_
          refine y_goto (tgt := 3) E dX11_firstElsewhere_68 (by decide) ?_
          refine y_lv (lv' := [(0, .ref (w.1 0)), (1, .int l1), (2, .int l2), (3, .ref (w.1 a3)), (4, .int x10)]) [2, 3, 4, 5, 0] rfl ?_
          exact ih3 u6 l1 l2 x10 hv
        · replace hv := ite_f hv c9
          refine y_iload E dX11_firstElsewhere_62 5 rfl ?_
          exact y_iret E dX11_firstElsewhere_64 hv
  refine y_iconst (v := 0) E dX11_firstElsewhere_0 (by decide) ?_
  refine y_istore (lv' := [(4, .int 0), (0, .ref (w.1 0)), (1, .int a1), (2, .int a2), (3, .ref (w.1 a3))]) E dX11_firstElsewhere_1 (by decide) rfl ?_
  refine y_lv (lv' := [(0, .ref (w.1 0)), (1, .int a1), (2, .int a2), (3, .ref (w.1 a3)), (4, .int 0)]) [1, 2, 3, 4, 0] rfl ?_
  obtain ⟨n0, hv⟩ := hv
  exact hL3 n0 σ a1 a2 0 hv
theorem dX11_isSheet_0 : decode cX11_isSheet 0 = .ok (.iload_n 0, 1) := by decide +kernel
theorem dX11_isSheet_1 : decode cX11_isSheet 1 = .ok (.ifCond .lt 12, 3) := by decide +kernel
theorem dX11_isSheet_4 : decode cX11_isSheet 4 = .ok (.iload_n 0, 1) := by decide +kernel
theorem dX11_isSheet_5 : decode cX11_isSheet 5 = .ok (.iconst 4, 1) := by decide +kernel
theorem dX11_isSheet_6 : decode cX11_isSheet 6 = .ok (.if_icmp .ge 7, 3) := by decide +kernel
theorem dX11_isSheet_9 : decode cX11_isSheet 9 = .ok (.iconst 1, 1) := by decide +kernel
theorem dX11_isSheet_10 : decode cX11_isSheet 10 = .ok (.goto 4, 3) := by decide +kernel
theorem dX11_isSheet_13 : decode cX11_isSheet 13 = .ok (.iconst 0, 1) := by decide +kernel
theorem dX11_isSheet_14 : decode cX11_isSheet 14 = .ok (.ireturn, 1) := by decide +kernel
set_option maxRecDepth 100000 in
set_option maxHeartbeats 4000000 in
theorem kX11_isSheet (l : Launch) (w : wT) (hw : yOk w 55) (σ : Hp) (a1 : Int32) (K : Int32 → Hp → Prop) (hv : VX11_isSheet K σ a1) : yMet l w xcf 55 yX11_isSheet cX11_isSheet 1 (some .boolean) 1 [.int a1] σ (yQi w xcf 55 K) := by
  unfold VX11_isSheet at hv
  refine y_start (lv0 := [(0, .int a1)]) (by decide +kernel) (own := RX11) rfl hw (Nat.le_of_ble_eq_true rfl) rfl (fun p e s m below meth c A E => ?_)
  refine y_iload_n E dX11_isSheet_0 0 rfl ?_
  refine y_if_lt (tgt := 13) E dX11_isSheet_1 (by decide) (fun c1 => ?_) (fun c1 => ?_)
  · replace hv := ite_t hv c1
    refine y_iconst (v := 0) E dX11_isSheet_13 (by decide) ?_
    exact y_nret E dX11_isSheet_14 (by decide) hv
  · replace hv := ite_f hv c1
    refine y_iload_n E dX11_isSheet_4 0 rfl ?_
    refine y_iconst (v := 4) E dX11_isSheet_5 (by decide) ?_
    refine y_icmp_ge (tgt := 13) E dX11_isSheet_6 (by decide) (fun c2 => ?_) (fun c2 => ?_)
    · replace hv := ite_t hv c2
      refine y_iconst (v := 0) E dX11_isSheet_13 (by decide) ?_
      exact y_nret E dX11_isSheet_14 (by decide) hv
    · replace hv := ite_f hv c2
      refine y_iconst (v := 1) E dX11_isSheet_9 (by decide) ?_
      refine y_goto (tgt := 14) E dX11_isSheet_10 (by decide) ?_
      exact y_nret E dX11_isSheet_14 (by decide) hv
theorem dX11_refusalOfPlaces_0 : decode cX11_refusalOfPlaces 0 = .ok (.iload_n 1, 1) := by decide +kernel
theorem dX11_refusalOfPlaces_1 : decode cX11_refusalOfPlaces 1 = .ok (.invokestatic 265, 3) := by decide +kernel
theorem dX11_refusalOfPlaces_4 : decode cX11_refusalOfPlaces 4 = .ok (.ifCond .ne 6, 3) := by decide +kernel
theorem dX11_refusalOfPlaces_7 : decode cX11_refusalOfPlaces 7 = .ok (.bipush (-2), 2) := by decide +kernel
theorem dX11_refusalOfPlaces_9 : decode cX11_refusalOfPlaces 9 = .ok (.ireturn, 1) := by decide +kernel
theorem dX11_refusalOfPlaces_10 : decode cX11_refusalOfPlaces 10 = .ok (.aload_n 0, 1) := by decide +kernel
theorem dX11_refusalOfPlaces_11 : decode cX11_refusalOfPlaces 11 = .ok (.getfield 40, 3) := by decide +kernel
theorem dX11_refusalOfPlaces_14 : decode cX11_refusalOfPlaces 14 = .ok (.iload_n 1, 1) := by decide +kernel
theorem dX11_refusalOfPlaces_15 : decode cX11_refusalOfPlaces 15 = .ok (.aaload, 1) := by decide +kernel
theorem dX11_refusalOfPlaces_16 : decode cX11_refusalOfPlaces 16 = .ok (.getfield 286, 3) := by decide +kernel
theorem dX11_refusalOfPlaces_19 : decode cX11_refusalOfPlaces 19 = .ok (.iconst (-1), 1) := by decide +kernel
theorem dX11_refusalOfPlaces_20 : decode cX11_refusalOfPlaces 20 = .ok (.if_icmp .ne 6, 3) := by decide +kernel
theorem dX11_refusalOfPlaces_23 : decode cX11_refusalOfPlaces 23 = .ok (.bipush (-11), 2) := by decide +kernel
theorem dX11_refusalOfPlaces_25 : decode cX11_refusalOfPlaces 25 = .ok (.ireturn, 1) := by decide +kernel
theorem dX11_refusalOfPlaces_26 : decode cX11_refusalOfPlaces 26 = .ok (.aload_n 0, 1) := by decide +kernel
theorem dX11_refusalOfPlaces_27 : decode cX11_refusalOfPlaces 27 = .ok (.getfield 40, 3) := by decide +kernel
theorem dX11_refusalOfPlaces_30 : decode cX11_refusalOfPlaces 30 = .ok (.iload_n 1, 1) := by decide +kernel
theorem dX11_refusalOfPlaces_31 : decode cX11_refusalOfPlaces 31 = .ok (.aaload, 1) := by decide +kernel
theorem dX11_refusalOfPlaces_32 : decode cX11_refusalOfPlaces 32 = .ok (.getfield 331, 3) := by decide +kernel
theorem dX11_refusalOfPlaces_35 : decode cX11_refusalOfPlaces 35 = .ok (.aload_n 0, 1) := by decide +kernel
theorem dX11_refusalOfPlaces_36 : decode cX11_refusalOfPlaces 36 = .ok (.getfield 12, 3) := by decide +kernel
theorem dX11_refusalOfPlaces_39 : decode cX11_refusalOfPlaces 39 = .ok (.getfield 122, 3) := by decide +kernel
theorem dX11_refusalOfPlaces_42 : decode cX11_refusalOfPlaces 42 = .ok (.if_icmp .ne 7, 3) := by decide +kernel
theorem dX11_refusalOfPlaces_45 : decode cX11_refusalOfPlaces 45 = .ok (.iconst 0, 1) := by decide +kernel
theorem dX11_refusalOfPlaces_46 : decode cX11_refusalOfPlaces 46 = .ok (.goto 5, 3) := by decide +kernel
theorem dX11_refusalOfPlaces_49 : decode cX11_refusalOfPlaces 49 = .ok (.bipush (-2), 2) := by decide +kernel
theorem dX11_refusalOfPlaces_51 : decode cX11_refusalOfPlaces 51 = .ok (.ireturn, 1) := by decide +kernel
set_option maxRecDepth 100000 in
set_option maxHeartbeats 4000000 in
theorem kX11_refusalOfPlaces (l : Launch) (w : wT) (hw : yOk w 55) (σ : Hp) (a1 : Int32) (K : Int32 → Hp → Prop) (hv : VX11_refusalOfPlaces K σ a1) : yMet l w xcf 55 yX11_refusalOfPlaces cX11_refusalOfPlaces 2 (some .int) 2 [.ref (w.1 0), .int a1] σ (yQi w xcf 55 K) := by
  unfold VX11_refusalOfPlaces at hv
  refine y_start (lv0 := [(0, .ref (w.1 0)), (1, .int a1)]) (by decide +kernel) (own := RX11) rfl hw (Nat.le_of_ble_eq_true rfl) rfl (fun p e s m below meth c A E => ?_)
  refine y_iload_n E dX11_refusalOfPlaces_0 1 rfl ?_
  refine y_calli E (y_runS E (rest := []) (kX11_isSheet l w E.2.2.1 σ a1 _ hv) (y_cwS 1 E.1.2.2.2.2 wm_409 wm_415 wm_116 wm_416 (by decide +kernel) (yRm_le (by decide) (by decide))) rfl rfl (Nat.le_of_ble_eq_true rfl) dX11_refusalOfPlaces_1) (fun v1 u2 hk => ?_)
  clear hv
  have hv := hk
  clear hk
  refine y_if_ne (tgt := 10) E dX11_refusalOfPlaces_4 (by decide) (fun c3 => ?_) (fun c3 => ?_)
  · replace hv := ite_f hv c3
    refine y_aload_n E dX11_refusalOfPlaces_10 0 rfl ?_
    refine gf_X11_7 E (by decide) (by decide) wm_406 dX11_refusalOfPlaces_11 ?_
    refine y_iload_n E dX11_refusalOfPlaces_14 1 rfl ?_
    obtain ⟨hi, hv⟩ := hv
    refine y_aald (t0 := 2) E (by decide) (xc_rsheets (by decide) (by decide)) rfl hi dX11_refusalOfPlaces_15 ?_
    refine y_nmr (fun x4 hx4 => ?_)
    replace hv := hv x4 hx4
    have hgx4 : 41 ≤ x4 ∧ x4 < 45 := by have := vp_in_lt hi; omega
    refine gf_X6_1 E hgx4.1 hgx4.2 wm_434 dX11_refusalOfPlaces_16 ?_
    refine y_iconst (v := (-1)) E dX11_refusalOfPlaces_19 (by decide) ?_
    refine y_icmp_ne (tgt := 26) E dX11_refusalOfPlaces_20 (by decide) (fun c5 => ?_) (fun c5 => ?_)
    · replace hv := ite_f hv c5
      refine y_aload_n E dX11_refusalOfPlaces_26 0 rfl ?_
      refine gf_X11_7 E (by decide) (by decide) wm_406 dX11_refusalOfPlaces_27 ?_
      refine y_iload_n E dX11_refusalOfPlaces_30 1 rfl ?_
      obtain ⟨hi, hv⟩ := hv
      refine y_aald (t0 := 2) E (by decide) (xc_rsheets (by decide) (by decide)) rfl hi dX11_refusalOfPlaces_31 ?_
      refine y_nmr (fun x6 hx6 => ?_)
      replace hv := hv x6 hx6
      have hgx6 : 41 ≤ x6 ∧ x6 < 45 := by have := vp_in_lt hi; omega
      refine gf_X6_2 E hgx6.1 hgx6.2 wm_471 dX11_refusalOfPlaces_32 ?_
      refine y_aload_n E dX11_refusalOfPlaces_35 0 rfl ?_
      refine gf_X11_0 E (by decide) (by decide) wm_272 dX11_refusalOfPlaces_36 ?_
      refine gf_X3_5 E (by decide) (by decide) wm_286 dX11_refusalOfPlaces_39 ?_
      refine y_icmp_ne (tgt := 49) E dX11_refusalOfPlaces_42 (by decide) (fun c7 => ?_) (fun c7 => ?_)
      · replace hv := ite_f hv c7
        refine y_bipush (v := (-2)) E dX11_refusalOfPlaces_49 (by decide) ?_
        exact y_iret E dX11_refusalOfPlaces_51 hv
      · replace hv := ite_t hv c7
        refine y_iconst (v := 0) E dX11_refusalOfPlaces_45 (by decide) ?_
        refine y_goto (tgt := 51) E dX11_refusalOfPlaces_46 (by decide) ?_
        exact y_iret E dX11_refusalOfPlaces_51 hv
    · replace hv := ite_t hv c5
      refine y_bipush (v := (-11)) E dX11_refusalOfPlaces_23 (by decide) ?_
      exact y_iret E dX11_refusalOfPlaces_25 hv
  · replace hv := ite_t hv c3
    refine y_bipush (v := (-2)) E dX11_refusalOfPlaces_7 (by decide) ?_
    exact y_iret E dX11_refusalOfPlaces_9 hv
theorem dX11_judge_0 : decode cX11_judge 0 = .ok (.aload_n 0, 1) := by decide +kernel
theorem dX11_judge_1 : decode cX11_judge 1 = .ok (.iload_n 1, 1) := by decide +kernel
theorem dX11_judge_2 : decode cX11_judge 2 = .ok (.invokevirtual 251, 3) := by decide +kernel
theorem dX11_judge_5 : decode cX11_judge 5 = .ok (.istore_n 3, 1) := by decide +kernel
theorem dX11_judge_6 : decode cX11_judge 6 = .ok (.iload_n 3, 1) := by decide +kernel
theorem dX11_judge_7 : decode cX11_judge 7 = .ok (.ifCond .eq 5, 3) := by decide +kernel
theorem dX11_judge_10 : decode cX11_judge 10 = .ok (.iload_n 3, 1) := by decide +kernel
theorem dX11_judge_11 : decode cX11_judge 11 = .ok (.ireturn, 1) := by decide +kernel
theorem dX11_judge_12 : decode cX11_judge 12 = .ok (.iload_n 2, 1) := by decide +kernel
theorem dX11_judge_13 : decode cX11_judge 13 = .ok (.invokestatic 178, 3) := by decide +kernel
theorem dX11_judge_16 : decode cX11_judge 16 = .ok (.ifCond .ne 6, 3) := by decide +kernel
theorem dX11_judge_19 : decode cX11_judge 19 = .ok (.bipush (-7), 2) := by decide +kernel
theorem dX11_judge_21 : decode cX11_judge 21 = .ok (.ireturn, 1) := by decide +kernel
theorem dX11_judge_22 : decode cX11_judge 22 = .ok (.aload_n 0, 1) := by decide +kernel
theorem dX11_judge_23 : decode cX11_judge 23 = .ok (.iload_n 1, 1) := by decide +kernel
theorem dX11_judge_24 : decode cX11_judge 24 = .ok (.iload_n 2, 1) := by decide +kernel
theorem dX11_judge_25 : decode cX11_judge 25 = .ok (.aload_n 0, 1) := by decide +kernel
theorem dX11_judge_26 : decode cX11_judge 26 = .ok (.invokevirtual 151, 3) := by decide +kernel
theorem dX11_judge_29 : decode cX11_judge 29 = .ok (.invokevirtual 254, 3) := by decide +kernel
theorem dX11_judge_32 : decode cX11_judge 32 = .ok (.ireturn, 1) := by decide +kernel
set_option maxRecDepth 100000 in
set_option maxHeartbeats 4000000 in
theorem kX11_judge (l : Launch) (w : wT) (hw : yOk w 55) (σ : Hp) (a1 : Int32) (a2 : Int32) (K : Int32 → Hp → Prop) (hv : VX11_judge K σ a1 a2) : yMet l w xcf 55 yX11_judge cX11_judge 4 (some .int) 6 [.ref (w.1 0), .int a1, .int a2] σ (yQi w xcf 55 K) := by
  unfold VX11_judge at hv
  refine y_start (lv0 := [(0, .ref (w.1 0)), (1, .int a1), (2, .int a2)]) (by decide +kernel) (own := RX11) rfl hw (Nat.le_of_ble_eq_true rfl) rfl (fun p e s m below meth c A E => ?_)
  refine y_aload_n E dX11_judge_0 0 rfl ?_
  refine y_iload_n E dX11_judge_1 1 rfl ?_
  refine y_calli E (y_runV E (rest := []) (kX11_refusalOfPlaces l w E.2.2.1 σ a1 _ hv) (y_cwV 1 E.1.2.2.2.2 wm_397 wm_402 wm_403 wm_116 wm_404 (by decide +kernel) (yRm_le (by decide) (by decide))) (Nat.lt_of_lt_of_le (show 0 < 1 by decide) (by decide)) (xc_X11 (by decide) (by decide)) rfl rfl rfl (Nat.le_of_ble_eq_true rfl) dX11_judge_2) (fun v1 u2 hk => ?_)
  clear hv
  have hv := hk
  clear hk
  refine y_istore_n (lv' := [(3, .int v1), (0, .ref (w.1 0)), (1, .int a1), (2, .int a2)]) E dX11_judge_5 (by decide) rfl ?_
  refine y_iload_n E dX11_judge_6 0 rfl ?_
  refine y_if_eq (tgt := 12) E dX11_judge_7 (by decide) (fun c3 => ?_) (fun c3 => ?_)
  · replace hv := ite_t hv c3
    refine y_iload_n E dX11_judge_12 3 rfl ?_
    refine y_calli E (y_runS E (rest := []) (kX11_isBehind l w E.2.2.1 u2 a2 _ hv) (y_cwS 1 E.1.2.2.2.2 wm_326 wm_336 wm_116 wm_337 (by decide +kernel) (yRm_le (by decide) (by decide))) rfl rfl (Nat.le_of_ble_eq_true rfl) dX11_judge_13) (fun v4 u5 hk => ?_)
    clear hv
    have hv := hk
    clear hk
    refine y_if_ne (tgt := 22) E dX11_judge_16 (by decide) (fun c6 => ?_) (fun c6 => ?_)
    · replace hv := ite_f hv c6
      refine y_aload_n E dX11_judge_22 1 rfl ?_
      refine y_iload_n E dX11_judge_23 2 rfl ?_
      refine y_iload_n E dX11_judge_24 3 rfl ?_
      refine y_aload_n E dX11_judge_25 1 rfl ?_
      refine y_callr E (y_runV E (rest := [.int a2, .int a1, .ref (w.1 0)]) (kX11_law l w E.2.2.1 u5 _ hv) (y_cwV 0 E.1.2.2.2.2 wm_306 wm_308 wm_309 wm_116 wm_310 (by decide +kernel) (yRm_le (by decide) (by decide))) (Nat.lt_of_lt_of_le (show 0 < 1 by decide) (by decide)) (xc_X11 (by decide) (by decide)) rfl rfl rfl (Nat.le_of_ble_eq_true rfl) dX11_judge_26) (fun v7 u8 hk => ?_)
      clear hv
      have hv := hk
      clear hk
      obtain ⟨hgv7, hv⟩ := hv
      refine y_calli E (y_runV E (rest := []) (kX11_firstElsewhere l w E.2.2.1 u8 a1 a2 v7 _ hv) (y_cwV 3 E.1.2.2.2.2 wm_398 wm_399 wm_400 wm_116 wm_401 (by decide +kernel) (yRm_le (by decide) (by decide))) (Nat.lt_of_lt_of_le (show 0 < 1 by decide) (by decide)) (xc_X11 (by decide) (by decide)) rfl rfl rfl (Nat.le_of_ble_eq_true rfl) dX11_judge_29) (fun v9 u10 hk => ?_)
      clear hv
      have hv := hk
      clear hk
      exact y_iret E dX11_judge_32 hv
    · replace hv := ite_t hv c6
      refine y_bipush (v := (-7)) E dX11_judge_19 (by decide) ?_
      exact y_iret E dX11_judge_21 hv
  · replace hv := ite_f hv c3
    refine y_iload_n E dX11_judge_10 0 rfl ?_
    exact y_iret E dX11_judge_11 hv
