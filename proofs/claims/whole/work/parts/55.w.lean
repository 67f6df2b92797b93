theorem dX11_times_0 : decode cX11_times 0 = .ok (.aload_n 0, 1) := by decide +kernel
theorem dX11_times_1 : decode cX11_times 1 = .ok (.iload_n 1, 1) := by decide +kernel
theorem dX11_times_2 : decode cX11_times 2 = .ok (.invokevirtual 251, 3) := by decide +kernel
theorem dX11_times_5 : decode cX11_times 5 = .ok (.ifCond .eq 7, 3) := by decide +kernel
theorem dX11_times_8 : decode cX11_times 8 = .ok (.ldc2_w 242, 3) := by decide +kernel
theorem dX11_times_11 : decode cX11_times 11 = .ok (.lreturn, 1) := by decide +kernel
theorem dX11_times_12 : decode cX11_times 12 = .ok (.ldc2_w 258, 3) := by decide +kernel
theorem dX11_times_15 : decode cX11_times 15 = .ok (.lstore_n 2, 1) := by decide +kernel
theorem dX11_times_16 : decode cX11_times 16 = .ok (.iconst 0, 1) := by decide +kernel
theorem dX11_times_17 : decode cX11_times 17 = .ok (.istore 4, 2) := by decide +kernel
theorem dX11_times_19 : decode cX11_times 19 = .ok (.iload 4, 2) := by decide +kernel
theorem dX11_times_21 : decode cX11_times 21 = .ok (.aload_n 0, 1) := by decide +kernel
theorem dX11_times_22 : decode cX11_times 22 = .ok (.getfield 12, 3) := by decide +kernel
theorem dX11_times_25 : decode cX11_times 25 = .ok (.getfield 122, 3) := by decide +kernel
theorem dX11_times_28 : decode cX11_times 28 = .ok (.if_icmp .ge 68, 3) := by decide +kernel
theorem dX11_times_31 : decode cX11_times 31 = .ok (.aload_n 0, 1) := by decide +kernel
theorem dX11_times_32 : decode cX11_times 32 = .ok (.aload_n 0, 1) := by decide +kernel
theorem dX11_times_33 : decode cX11_times 33 = .ok (.iload 4, 2) := by decide +kernel
theorem dX11_times_35 : decode cX11_times 35 = .ok (.invokevirtual 200, 3) := by decide +kernel
theorem dX11_times_38 : decode cX11_times 38 = .ok (.invokevirtual 204, 3) := by decide +kernel
theorem dX11_times_41 : decode cX11_times 41 = .ok (.iconst 0, 1) := by decide +kernel
theorem dX11_times_42 : decode cX11_times 42 = .ok (.istore 5, 2) := by decide +kernel
theorem dX11_times_44 : decode cX11_times 44 = .ok (.iload 5, 2) := by decide +kernel
theorem dX11_times_46 : decode cX11_times 46 = .ok (.bipush 40, 2) := by decide +kernel
theorem dX11_times_48 : decode cX11_times 48 = .ok (.if_icmp .gt 42, 3) := by decide +kernel
theorem dX11_times_51 : decode cX11_times 51 = .ok (.aload_n 0, 1) := by decide +kernel
theorem dX11_times_52 : decode cX11_times 52 = .ok (.getfield 53, 3) := by decide +kernel
theorem dX11_times_55 : decode cX11_times 55 = .ok (.iload 5, 2) := by decide +kernel
theorem dX11_times_57 : decode cX11_times 57 = .ok (.iaload, 1) := by decide +kernel
theorem dX11_times_58 : decode cX11_times 58 = .ok (.aload_n 0, 1) := by decide +kernel
theorem dX11_times_59 : decode cX11_times 59 = .ok (.getfield 40, 3) := by decide +kernel
theorem dX11_times_62 : decode cX11_times 62 = .ok (.iload_n 1, 1) := by decide +kernel
theorem dX11_times_63 : decode cX11_times 63 = .ok (.aaload, 1) := by decide +kernel
theorem dX11_times_64 : decode cX11_times 64 = .ok (.getfield 260, 3) := by decide +kernel
theorem dX11_times_67 : decode cX11_times 67 = .ok (.iload 4, 2) := by decide +kernel
theorem dX11_times_69 : decode cX11_times 69 = .ok (.iaload, 1) := by decide +kernel
theorem dX11_times_70 : decode cX11_times 70 = .ok (.if_icmp .eq 14, 3) := by decide +kernel
theorem dX11_times_73 : decode cX11_times 73 = .ok (.lload_n 2, 1) := by decide +kernel
theorem dX11_times_74 : decode cX11_times 74 = .ok (.lconst 1, 1) := by decide +kernel
theorem dX11_times_75 : decode cX11_times 75 = .ok (.iload 5, 2) := by decide +kernel
theorem dX11_times_77 : decode cX11_times 77 = .ok (.lshl, 1) := by decide +kernel
theorem dX11_times_78 : decode cX11_times 78 = .ok (.ldc2_w 263, 3) := by decide +kernel
theorem dX11_times_81 : decode cX11_times 81 = .ok (.lxor, 1) := by decide +kernel
theorem dX11_times_82 : decode cX11_times 82 = .ok (.land, 1) := by decide +kernel
theorem dX11_times_83 : decode cX11_times 83 = .ok (.lstore_n 2, 1) := by decide +kernel
theorem dX11_times_84 : decode cX11_times 84 = .ok (.iinc 5 1, 3) := by decide +kernel
theorem dX11_times_87 : decode cX11_times 87 = .ok (.goto (-43), 3) := by decide +kernel
theorem dX11_times_90 : decode cX11_times 90 = .ok (.iinc 4 1, 3) := by decide +kernel
theorem dX11_times_93 : decode cX11_times 93 = .ok (.goto (-74), 3) := by decide +kernel
theorem dX11_times_96 : decode cX11_times 96 = .ok (.lload_n 2, 1) := by decide +kernel
theorem dX11_times_97 : decode cX11_times 97 = .ok (.lreturn, 1) := by decide +kernel
set_option maxRecDepth 100000 in
set_option maxHeartbeats 4000000 in
theorem kX11_times (l : Launch) (w : wT) (hw : yOk w 55) (σ : Hp) (a1 : Int32) (K : Int64 → Hp → Prop) (hv : VX11_times K σ a1) : yMet l w xcf 55 yX11_times cX11_times 6 (some .long) 6 [.ref (w.1 0), .int a1] σ (yQl w xcf 55 K) := by
  unfold VX11_times at hv
  refine y_start (lv0 := [(0, .ref (w.1 0)), (1, .int a1)]) (by decide +kernel) (own := RX11) rfl hw (Nat.le_of_ble_eq_true rfl) rfl (fun p e s m below meth c A E => ?_)
  have hL19 : ∀ (n19 : Nat) (σ : Hp) (l1 : Int32) (l2 : Int64) (l4 : Int32), VX11_times_L19 K n19 σ l1 l2 l4 → YY p l e (yRm 6) s m [.ref (w.1 0), .int a1].toArray below meth c w xcf 55 A (MQ below (yQl w xcf 55 K A) [.ref (w.1 0), .int a1].toArray s 0 0 A) 6 σ 19 [(0, .ref (w.1 0)), (1, .int l1), (2, .long l2), (4, .int l4)] [] := by
    intro n19
    induction n19 with
    | zero => exact fun _ _ _ _ hv => (by unfold VX11_times_L19 at hv; exact hv.elim)
    | succ n19 ih19 =>
      have hL44 : ∀ (n44 : Nat) (σ : Hp) (l1 : Int32) (l2 : Int64) (l4 : Int32) (l5 : Int32), VX11_times_L44 K (VX11_times_L19 K n19) n44 σ l1 l2 l4 l5 → YY p l e (yRm 6) s m [.ref (w.1 0), .int a1].toArray below meth c w xcf 55 A (MQ below (yQl w xcf 55 K A) [.ref (w.1 0), .int a1].toArray s 0 0 A) 6 σ 44 [(0, .ref (w.1 0)), (1, .int l1), (2, .long l2), (4, .int l4), (5, .int l5)] [] := by
        intro n44
        induction n44 with
        | zero => exact fun _ _ _ _ _ hv => (by unfold VX11_times_L44 at hv; exact hv.elim)
        | succ n44 ih44 =>
          intro σ l1 l2 l4 l5 hv
          unfold VX11_times_L44 at hv
          refine y_iload E dX11_times_44 4 rfl ?_
          refine y_bipush (v := 40) E dX11_times_46 (by decide) ?_
          refine y_icmp_gt (tgt := 90) E dX11_times_48 (by decide) (fun c9 => ?_) (fun c9 => ?_)
          · replace hv := ite_t hv c9
            obtain ⟨x10, hx10⟩ : ∃ z : Int32, z = l4 + 1 := ⟨_, rfl⟩
            replace hv := hv x10 hx10
            refine y_iinc (v := x10) (lv' := [(4, .int x10), (0, .ref (w.1 0)), (1, .int l1), (2, .long l2), (5, .int l5)]) E dX11_times_90 3 rfl (by rw [hx10]; rfl) (by decide) rfl ?_
            refine y_goto (tgt := 19) E dX11_times_93 (by decide) ?_
            refine y_lv (lv' := [(0, .ref (w.1 0)), (1, .int l1), (2, .long l2), (4, .int x10)]) [1, 2, 3, 0] rfl ?_
            exact ih19 σ l1 l2 x10 hv
          · replace hv := ite_f hv c9
            refine y_aload_n E dX11_times_51 0 rfl ?_
            refine gf_X11_9 E (by decide) (by decide) wm_351 dX11_times_52 ?_
            refine y_iload E dX11_times_55 4 rfl ?_
            obtain ⟨hi, hv⟩ := hv
            refine y_iald E (Nat.lt_of_lt_of_le (show 50 < 51 by decide) (by decide)) (xc_path (by decide) (by decide)) hi dX11_times_57 ?_
            refine y_aload_n E dX11_times_58 0 rfl ?_
            refine gf_X11_7 E (by decide) (by decide) wm_406 dX11_times_59 ?_
            refine y_iload_n E dX11_times_62 1 rfl ?_
            obtain ⟨hi, hv⟩ := hv
            refine y_aald (t0 := 2) E (by decide) (xc_rsheets (by decide) (by decide)) rfl hi dX11_times_63 ?_
            refine y_nmr (fun x11 hx11 => ?_)
            replace hv := hv x11 hx11
            have hgx11 : 41 ≤ x11 ∧ x11 < 45 := by have := vp_in_lt hi; omega
            obtain ⟨x12, hx12⟩ : ∃ z : Nat, z = 45 + 1 * (x11 - 41) := ⟨_, rfl⟩
            replace hv := hv x12 hx12
            have hgx12 : 45 ≤ x12 ∧ x12 < 49 := by omega
            refine gf_X6_0 (q := x12) E hgx11.1 hgx11.2 hx12.symm wm_407 dX11_times_64 ?_
            refine y_iload E dX11_times_67 3 rfl ?_
            obtain ⟨hi, hv⟩ := hv
            refine y_iald E (Nat.lt_of_lt_of_le hgx12.2 (by decide)) (xc_numbers hgx12.1 hgx12.2) hi dX11_times_69 ?_
            refine y_icmp_eq (tgt := 84) E dX11_times_70 (by decide) (fun c13 => ?_) (fun c13 => ?_)
            · replace hv := ite_t hv c13
              obtain ⟨x14, hx14⟩ : ∃ z : Int32, z = l5 + 1 := ⟨_, rfl⟩
              replace hv := hv x14 hx14
              refine y_iinc (v := x14) (lv' := [(5, .int x14), (0, .ref (w.1 0)), (1, .int l1), (2, .long l2), (4, .int l4)]) E dX11_times_84 4 rfl (by rw [hx14]; rfl) (by decide) rfl ?_
              refine y_goto (tgt := 44) E dX11_times_87 (by decide) ?_
              refine y_lv (lv' := [(0, .ref (w.1 0)), (1, .int l1), (2, .long l2), (4, .int l4), (5, .int x14)]) [1, 2, 3, 4, 0] rfl ?_
              exact ih44 σ l1 l2 l4 x14 hv
            · replace hv := ite_f hv c13
              refine y_lload_n E dX11_times_73 2 rfl ?_
              refine y_lconst (v := 1) E dX11_times_74 (by decide) ?_
              refine y_iload E dX11_times_75 4 rfl ?_
              refine y_lshl E dX11_times_77 ?_
              refine y_ldc2 (v := (-1)) E wm_408 dX11_times_78 ?_
              refine y_lxor E dX11_times_81 ?_
              refine y_land E dX11_times_82 ?_
              refine y_nml (fun x15 hx15 => ?_)
              replace hv := hv x15 hx15
              refine y_lstore_n (lv' := [(2, .long x15), (0, .ref (w.1 0)), (1, .int l1), (4, .int l4), (5, .int l5)]) E dX11_times_83 (by decide) rfl ?_
              obtain ⟨x16, hx16⟩ : ∃ z : Int32, z = l5 + 1 := ⟨_, rfl⟩
              replace hv := hv x16 hx16
              refine y_iinc (v := x16) (lv' := [(5, .int x16), (2, .long x15), (0, .ref (w.1 0)), (1, .int l1), (4, .int l4)]) E dX11_times_84 4 rfl (by rw [hx16]; rfl) (by decide) rfl ?_
              refine y_goto (tgt := 44) E dX11_times_87 (by decide) ?_
              refine y_lv (lv' := [(0, .ref (w.1 0)), (1, .int l1), (2, .long x15), (4, .int l4), (5, .int x16)]) [2, 3, 1, 4, 0] rfl ?_
              exact ih44 σ l1 x15 l4 x16 hv
      intro σ l1 l2 l4 hv
      unfold VX11_times_L19 at hv
      refine y_iload E dX11_times_19 3 rfl ?_
      refine y_aload_n E dX11_times_21 0 rfl ?_
      refine gf_X11_0 E (by decide) (by decide) wm_272 dX11_times_22 ?_
      refine gf_X3_5 E (by decide) (by decide) wm_286 dX11_times_25 ?_
      refine y_icmp_ge (tgt := 96) E dX11_times_28 (by decide) (fun c4 => ?_) (fun c4 => ?_)
      · replace hv := ite_t hv c4
        refine y_lload_n E dX11_times_96 2 rfl ?_
        exact y_lret E dX11_times_97 hv
      · replace hv := ite_f hv c4
        refine y_aload_n E dX11_times_31 0 rfl ?_
        refine y_aload_n E dX11_times_32 0 rfl ?_
        refine y_iload E dX11_times_33 3 rfl ?_
        refine y_callr E (y_runV E (rest := [.ref (w.1 0)]) (kX11_lift l w E.2.2.1 σ l4 _ hv) (y_cwV 1 E.1.2.2.2.2 wm_339 wm_348 wm_349 wm_116 wm_350 (by decide +kernel) (yRm_le (by decide) (by decide))) (Nat.lt_of_lt_of_le (show 0 < 1 by decide) (by decide)) (xc_X11 (by decide) (by decide)) rfl rfl rfl (Nat.le_of_ble_eq_true rfl) dX11_times_35) (fun v5 u6 hk => ?_)
        clear hv
        have hv := hk
        clear hk
        obtain ⟨rfl, hv⟩ := hv
        refine y_callv E (y_runV E (rest := []) (kX11_follow l w E.2.2.1 u6 49 _ hv) (y_cwV 1 E.1.2.2.2.2 wm_340 wm_345 wm_346 wm_116 wm_347 (by decide +kernel) (yRm_le (by decide) (by decide))) (Nat.lt_of_lt_of_le (show 0 < 1 by decide) (by decide)) (xc_X11 (by decide) (by decide)) rfl rfl rfl (Nat.le_of_ble_eq_true rfl) dX11_times_38) (fun u8 hk => ?_)
        clear hv
        have hv := hk
        clear hk
        refine y_iconst (v := 0) E dX11_times_41 (by decide) ?_
        refine y_istore (lv' := [(5, .int 0), (0, .ref (w.1 0)), (1, .int l1), (2, .long l2), (4, .int l4)]) E dX11_times_42 (by decide) rfl ?_
        refine y_lv (lv' := [(0, .ref (w.1 0)), (1, .int l1), (2, .long l2), (4, .int l4), (5, .int 0)]) [1, 2, 3, 4, 0] rfl ?_
        obtain ⟨n0, hv⟩ := hv
        exact hL44 n0 u8 l1 l2 l4 0 hv
  refine y_aload_n E dX11_times_0 0 rfl ?_
  refine y_iload_n E dX11_times_1 1 rfl ?_
  refine y_calli E (y_runV E (rest := []) (kX11_refusalOfPlaces l w E.2.2.1 σ a1 _ hv) (y_cwV 1 E.1.2.2.2.2 wm_397 wm_402 wm_403 wm_116 wm_404 (by decide +kernel) (yRm_le (by decide) (by decide))) (Nat.lt_of_lt_of_le (show 0 < 1 by decide) (by decide)) (xc_X11 (by decide) (by decide)) rfl rfl rfl (Nat.le_of_ble_eq_true rfl) dX11_times_2) (fun v1 u2 hk => ?_)
  clear hv
  have hv := hk
  clear hk
  refine y_if_eq (tgt := 12) E dX11_times_5 (by decide) (fun c3 => ?_) (fun c3 => ?_)
  · replace hv := ite_t hv c3
    refine y_ldc2 (v := 2199023255551) E wm_405 dX11_times_12 ?_
    refine y_lstore_n (lv' := [(2, .long 2199023255551), (0, .ref (w.1 0)), (1, .int a1)]) E dX11_times_15 (by decide) rfl ?_
    refine y_iconst (v := 0) E dX11_times_16 (by decide) ?_
    refine y_istore (lv' := [(4, .int 0), (2, .long 2199023255551), (0, .ref (w.1 0)), (1, .int a1)]) E dX11_times_17 (by decide) rfl ?_
    refine y_lv (lv' := [(0, .ref (w.1 0)), (1, .int a1), (2, .long 2199023255551), (4, .int 0)]) [2, 3, 1, 0] rfl ?_
    obtain ⟨n0, hv⟩ := hv
    exact hL19 n0 u2 a1 2199023255551 0 hv
  · replace hv := ite_f hv c3
    refine y_ldc2 (v := (-4611686018427387904)) E wm_389 dX11_times_8 ?_
    exact y_lret E dX11_times_11 hv
theorem dX11_laws_0 : decode cX11_laws 0 = .ok (.aload_n 0, 1) := by decide +kernel
theorem dX11_laws_1 : decode cX11_laws 1 = .ok (.iload_n 1, 1) := by decide +kernel
theorem dX11_laws_2 : decode cX11_laws 2 = .ok (.invokevirtual 251, 3) := by decide +kernel
theorem dX11_laws_5 : decode cX11_laws 5 = .ok (.istore_n 3, 1) := by decide +kernel
theorem dX11_laws_6 : decode cX11_laws 6 = .ok (.iload_n 3, 1) := by decide +kernel
theorem dX11_laws_7 : decode cX11_laws 7 = .ok (.ifCond .eq 5, 3) := by decide +kernel
theorem dX11_laws_10 : decode cX11_laws 10 = .ok (.iload_n 3, 1) := by decide +kernel
theorem dX11_laws_11 : decode cX11_laws 11 = .ok (.ireturn, 1) := by decide +kernel
theorem dX11_laws_12 : decode cX11_laws 12 = .ok (.iload_n 2, 1) := by decide +kernel
theorem dX11_laws_13 : decode cX11_laws 13 = .ok (.invokestatic 178, 3) := by decide +kernel
theorem dX11_laws_16 : decode cX11_laws 16 = .ok (.ifCond .ne 6, 3) := by decide +kernel
theorem dX11_laws_19 : decode cX11_laws 19 = .ok (.bipush (-7), 2) := by decide +kernel
theorem dX11_laws_21 : decode cX11_laws 21 = .ok (.ireturn, 1) := by decide +kernel
theorem dX11_laws_22 : decode cX11_laws 22 = .ok (.iconst 0, 1) := by decide +kernel
theorem dX11_laws_23 : decode cX11_laws 23 = .ok (.istore 4, 2) := by decide +kernel
theorem dX11_laws_25 : decode cX11_laws 25 = .ok (.iconst 0, 1) := by decide +kernel
theorem dX11_laws_26 : decode cX11_laws 26 = .ok (.istore 5, 2) := by decide +kernel
theorem dX11_laws_28 : decode cX11_laws 28 = .ok (.iload 5, 2) := by decide +kernel
theorem dX11_laws_30 : decode cX11_laws 30 = .ok (.aload_n 0, 1) := by decide +kernel
theorem dX11_laws_31 : decode cX11_laws 31 = .ok (.getfield 92, 3) := by decide +kernel
theorem dX11_laws_34 : decode cX11_laws 34 = .ok (.if_icmp .ge 38, 3) := by decide +kernel
theorem dX11_laws_37 : decode cX11_laws 37 = .ok (.iload 4, 2) := by decide +kernel
theorem dX11_laws_39 : decode cX11_laws 39 = .ok (.aload_n 0, 1) := by decide +kernel
theorem dX11_laws_40 : decode cX11_laws 40 = .ok (.iload_n 1, 1) := by decide +kernel
theorem dX11_laws_41 : decode cX11_laws 41 = .ok (.iload_n 2, 1) := by decide +kernel
theorem dX11_laws_42 : decode cX11_laws 42 = .ok (.aload_n 0, 1) := by decide +kernel
theorem dX11_laws_43 : decode cX11_laws 43 = .ok (.getfield 27, 3) := by decide +kernel
theorem dX11_laws_46 : decode cX11_laws 46 = .ok (.iload 5, 2) := by decide +kernel
theorem dX11_laws_48 : decode cX11_laws 48 = .ok (.aaload, 1) := by decide +kernel
theorem dX11_laws_49 : decode cX11_laws 49 = .ok (.invokevirtual 254, 3) := by decide +kernel
theorem dX11_laws_52 : decode cX11_laws 52 = .ok (.ifCond .ge 10, 3) := by decide +kernel
theorem dX11_laws_55 : decode cX11_laws 55 = .ok (.iconst 1, 1) := by decide +kernel
theorem dX11_laws_56 : decode cX11_laws 56 = .ok (.iload 5, 2) := by decide +kernel
theorem dX11_laws_58 : decode cX11_laws 58 = .ok (.ishl, 1) := by decide +kernel
theorem dX11_laws_59 : decode cX11_laws 59 = .ok (.goto 4, 3) := by decide +kernel
theorem dX11_laws_62 : decode cX11_laws 62 = .ok (.iconst 0, 1) := by decide +kernel
theorem dX11_laws_63 : decode cX11_laws 63 = .ok (.ior, 1) := by decide +kernel
theorem dX11_laws_64 : decode cX11_laws 64 = .ok (.istore 4, 2) := by decide +kernel
theorem dX11_laws_66 : decode cX11_laws 66 = .ok (.iinc 5 1, 3) := by decide +kernel
theorem dX11_laws_69 : decode cX11_laws 69 = .ok (.goto (-41), 3) := by decide +kernel
theorem dX11_laws_72 : decode cX11_laws 72 = .ok (.iload 4, 2) := by decide +kernel
theorem dX11_laws_74 : decode cX11_laws 74 = .ok (.ireturn, 1) := by decide +kernel
set_option maxRecDepth 100000 in
set_option maxHeartbeats 4000000 in
theorem kX11_laws (l : Launch) (w : wT) (hw : yOk w 55) (σ : Hp) (a1 : Int32) (a2 : Int32) (K : Int32 → Hp → Prop) (hv : VX11_laws K σ a1 a2) : yMet l w xcf 55 yX11_laws cX11_laws 6 (some .int) 6 [.ref (w.1 0), .int a1, .int a2] σ (yQi w xcf 55 K) := by
  unfold VX11_laws at hv
  refine y_start (lv0 := [(0, .ref (w.1 0)), (1, .int a1), (2, .int a2)]) (by decide +kernel) (own := RX11) rfl hw (Nat.le_of_ble_eq_true rfl) rfl (fun p e s m below meth c A E => ?_)
  have hL28 : ∀ (n28 : Nat) (σ : Hp) (l1 : Int32) (l2 : Int32) (l4 : Int32) (l5 : Int32), VX11_laws_L28 K n28 σ l1 l2 l4 l5 → YY p l e (yRm 6) s m [.ref (w.1 0), .int a1, .int a2].toArray below meth c w xcf 55 A (MQ below (yQi w xcf 55 K A) [.ref (w.1 0), .int a1, .int a2].toArray s 0 0 A) 6 σ 28 [(0, .ref (w.1 0)), (1, .int l1), (2, .int l2), (4, .int l4), (5, .int l5)] [] := by
    intro n28
    induction n28 with
    | zero => exact fun _ _ _ _ _ hv => (by unfold VX11_laws_L28 at hv; exact hv.elim)
    | succ n28 ih28 =>
      intro σ l1 l2 l4 l5 hv
      unfold VX11_laws_L28 at hv
      refine y_iload E dX11_laws_28 4 rfl ?_
      refine y_aload_n E dX11_laws_30 0 rfl ?_
      refine gf_X11_5 E (by decide) (by decide) wm_290 dX11_laws_31 ?_
      refine y_icmp_ge (tgt := 72) E dX11_laws_34 (by decide) (fun c7 => ?_) (fun c7 => ?_)
      · replace hv := ite_t hv c7
        refine y_iload E dX11_laws_72 3 rfl ?_
        exact y_iret E dX11_laws_74 hv
      · replace hv := ite_f hv c7
        refine y_iload E dX11_laws_37 3 rfl ?_
        refine y_aload_n E dX11_laws_39 0 rfl ?_
        refine y_iload_n E dX11_laws_40 1 rfl ?_
        refine y_iload_n E dX11_laws_41 2 rfl ?_
        refine y_aload_n E dX11_laws_42 0 rfl ?_
        refine gf_X11_4 E (by decide) (by decide) wm_301 dX11_laws_43 ?_
        refine y_iload E dX11_laws_46 4 rfl ?_
        obtain ⟨hi, hv⟩ := hv
        refine y_aald (t0 := 3) E (by decide) (xc_rtexts (by decide) (by decide)) rfl hi dX11_laws_48 ?_
        refine y_nmr (fun x8 hx8 => ?_)
        replace hv := hv x8 hx8
        have hgx8 : 19 ≤ x8 ∧ x8 < 25 := by have := vp_in_lt hi; omega
        refine y_calli E (y_runV E (rest := [.int l4]) (kX11_firstElsewhere l w E.2.2.1 σ l1 l2 x8 _ hv) (y_cwV 3 E.1.2.2.2.2 wm_398 wm_399 wm_400 wm_116 wm_401 (by decide +kernel) (yRm_le (by decide) (by decide))) (Nat.lt_of_lt_of_le (show 0 < 1 by decide) (by decide)) (xc_X11 (by decide) (by decide)) rfl rfl rfl (Nat.le_of_ble_eq_true rfl) dX11_laws_49) (fun v9 u10 hk => ?_)
        clear hv
        have hv := hk
        clear hk
        refine y_if_ge (tgt := 62) E dX11_laws_52 (by decide) (fun c11 => ?_) (fun c11 => ?_)
        · replace hv := ite_t hv c11
          refine y_iconst (v := 0) E dX11_laws_62 (by decide) ?_
          refine y_ior E dX11_laws_63 ?_
          refine y_nmi (fun x12 hx12 => ?_)
          replace hv := hv x12 hx12
          refine y_istore (lv' := [(4, .int x12), (0, .ref (w.1 0)), (1, .int l1), (2, .int l2), (5, .int l5)]) E dX11_laws_64 (by decide) rfl ?_
          obtain ⟨x13, hx13⟩ : ∃ z : Int32, z = l5 + 1 := ⟨_, rfl⟩
          replace hv := hv x13 hx13
          refine y_iinc (v := x13) (lv' := [(5, .int x13), (4, .int x12), (0, .ref (w.1 0)), (1, .int l1), (2, .int l2)]) E dX11_laws_66 4 rfl (by rw [hx13]; rfl) (by decide) rfl ?_
          refine y_goto (tgt := 28) E dX11_laws_69 (by decide) ?_
          refine y_lv (lv' := [(0, .ref (w.1 0)), (1, .int l1), (2, .int l2), (4, .int x12), (5, .int x13)]) [2, 3, 4, 1, 0] rfl ?_
          exact ih28 u10 l1 l2 x12 x13 hv
        · replace hv := ite_f hv c11
          refine y_iconst (v := 1) E dX11_laws_55 (by decide) ?_
          refine y_iload E dX11_laws_56 4 rfl ?_
          refine y_ishl E dX11_laws_58 ?_
          refine y_goto (tgt := 63) E dX11_laws_59 (by decide) ?_
          refine y_ior E dX11_laws_63 ?_
          refine y_nmi (fun x14 hx14 => ?_)
          replace hv := hv x14 hx14
          refine y_istore (lv' := [(4, .int x14), (0, .ref (w.1 0)), (1, .int l1), (2, .int l2), (5, .int l5)]) E dX11_laws_64 (by decide) rfl ?_
          obtain ⟨x15, hx15⟩ : ∃ z : Int32, z = l5 + 1 := ⟨_, rfl⟩
          replace hv := hv x15 hx15
          refine y_iinc (v := x15) (lv' := [(5, .int x15), (4, .int x14), (0, .ref (w.1 0)), (1, .int l1), (2, .int l2)]) E dX11_laws_66 4 rfl (by rw [hx15]; rfl) (by decide) rfl ?_
          refine y_goto (tgt := 28) E dX11_laws_69 (by decide) ?_
          refine y_lv (lv' := [(0, .ref (w.1 0)), (1, .int l1), (2, .int l2), (4, .int x14), (5, .int x15)]) [2, 3, 4, 1, 0] rfl ?_
          exact ih28 u10 l1 l2 x14 x15 hv
  refine y_aload_n E dX11_laws_0 0 rfl ?_
  refine y_iload_n E dX11_laws_1 1 rfl ?_
  refine y_calli E (y_runV E (rest := []) (kX11_refusalOfPlaces l w E.2.2.1 σ a1 _ hv) (y_cwV 1 E.1.2.2.2.2 wm_397 wm_402 wm_403 wm_116 wm_404 (by decide +kernel) (yRm_le (by decide) (by decide))) (Nat.lt_of_lt_of_le (show 0 < 1 by decide) (by decide)) (xc_X11 (by decide) (by decide)) rfl rfl rfl (Nat.le_of_ble_eq_true rfl) dX11_laws_2) (fun v1 u2 hk => ?_)
  clear hv
  have hv := hk
  clear hk
  refine y_istore_n (lv' := [(3, .int v1), (0, .ref (w.1 0)), (1, .int a1), (2, .int a2)]) E dX11_laws_5 (by decide) rfl ?_
  refine y_iload_n E dX11_laws_6 0 rfl ?_
  refine y_if_eq (tgt := 12) E dX11_laws_7 (by decide) (fun c3 => ?_) (fun c3 => ?_)
  · replace hv := ite_t hv c3
    refine y_iload_n E dX11_laws_12 3 rfl ?_
    refine y_calli E (y_runS E (rest := []) (kX11_isBehind l w E.2.2.1 u2 a2 _ hv) (y_cwS 1 E.1.2.2.2.2 wm_326 wm_336 wm_116 wm_337 (by decide +kernel) (yRm_le (by decide) (by decide))) rfl rfl (Nat.le_of_ble_eq_true rfl) dX11_laws_13) (fun v4 u5 hk => ?_)
    clear hv
    have hv := hk
    clear hk
    refine y_if_ne (tgt := 22) E dX11_laws_16 (by decide) (fun c6 => ?_) (fun c6 => ?_)
    · replace hv := ite_f hv c6
      refine y_iconst (v := 0) E dX11_laws_22 (by decide) ?_
      refine y_istore (lv' := [(4, .int 0), (3, .int v1), (0, .ref (w.1 0)), (1, .int a1), (2, .int a2)]) E dX11_laws_23 (by decide) rfl ?_
      refine y_iconst (v := 0) E dX11_laws_25 (by decide) ?_
      refine y_istore (lv' := [(5, .int 0), (4, .int 0), (3, .int v1), (0, .ref (w.1 0)), (1, .int a1), (2, .int a2)]) E dX11_laws_26 (by decide) rfl ?_
      refine y_lv (lv' := [(0, .ref (w.1 0)), (1, .int a1), (2, .int a2), (4, .int 0), (5, .int 0)]) [3, 4, 5, 1, 0] rfl ?_
      obtain ⟨n0, hv⟩ := hv
      exact hL28 n0 u5 a1 a2 0 0 hv
    · replace hv := ite_t hv c6
      refine y_bipush (v := (-7)) E dX11_laws_19 (by decide) ?_
      exact y_iret E dX11_laws_21 hv
  · replace hv := ite_f hv c3
    refine y_iload_n E dX11_laws_10 0 rfl ?_
    exact y_iret E dX11_laws_11 hv
theorem dX11_film_0 : decode cX11_film 0 = .ok (.iload_n 1, 1) := by decide +kernel
theorem dX11_film_1 : decode cX11_film 1 = .ok (.invokestatic 265, 3) := by decide +kernel
theorem dX11_film_4 : decode cX11_film 4 = .ok (.ifCond .ne 6, 3) := by decide +kernel
theorem dX11_film_7 : decode cX11_film 7 = .ok (.bipush (-2), 2) := by decide +kernel
theorem dX11_film_9 : decode cX11_film 9 = .ok (.ireturn, 1) := by decide +kernel
theorem dX11_film_10 : decode cX11_film 10 = .ok (.iload_n 2, 1) := by decide +kernel
theorem dX11_film_11 : decode cX11_film 11 = .ok (.invokestatic 178, 3) := by decide +kernel
theorem dX11_film_14 : decode cX11_film 14 = .ok (.ifCond .ne 6, 3) := by decide +kernel
theorem dX11_film_17 : decode cX11_film 17 = .ok (.bipush (-7), 2) := by decide +kernel
theorem dX11_film_19 : decode cX11_film 19 = .ok (.ireturn, 1) := by decide +kernel
theorem dX11_film_20 : decode cX11_film 20 = .ok (.aload_n 0, 1) := by decide +kernel
theorem dX11_film_21 : decode cX11_film 21 = .ok (.getfield 40, 3) := by decide +kernel
theorem dX11_film_24 : decode cX11_film 24 = .ok (.iload_n 1, 1) := by decide +kernel
theorem dX11_film_25 : decode cX11_film 25 = .ok (.aaload, 1) := by decide +kernel
theorem dX11_film_26 : decode cX11_film 26 = .ok (.iconst 2, 1) := by decide +kernel
theorem dX11_film_27 : decode cX11_film 27 = .ok (.aload_n 0, 1) := by decide +kernel
theorem dX11_film_28 : decode cX11_film 28 = .ok (.getfield 12, 3) := by decide +kernel
theorem dX11_film_31 : decode cX11_film 31 = .ok (.getfield 122, 3) := by decide +kernel
theorem dX11_film_34 : decode cX11_film 34 = .ok (.invokevirtual 268, 3) := by decide +kernel
theorem dX11_film_37 : decode cX11_film 37 = .ok (.iconst 0, 1) := by decide +kernel
theorem dX11_film_38 : decode cX11_film 38 = .ok (.istore_n 3, 1) := by decide +kernel
theorem dX11_film_39 : decode cX11_film 39 = .ok (.iload_n 3, 1) := by decide +kernel
theorem dX11_film_40 : decode cX11_film 40 = .ok (.aload_n 0, 1) := by decide +kernel
theorem dX11_film_41 : decode cX11_film 41 = .ok (.getfield 12, 3) := by decide +kernel
theorem dX11_film_44 : decode cX11_film 44 = .ok (.getfield 122, 3) := by decide +kernel
theorem dX11_film_47 : decode cX11_film 47 = .ok (.if_icmp .ge 29, 3) := by decide +kernel
theorem dX11_film_50 : decode cX11_film 50 = .ok (.aload_n 0, 1) := by decide +kernel
theorem dX11_film_51 : decode cX11_film 51 = .ok (.getfield 40, 3) := by decide +kernel
theorem dX11_film_54 : decode cX11_film 54 = .ok (.iload_n 1, 1) := by decide +kernel
theorem dX11_film_55 : decode cX11_film 55 = .ok (.aaload, 1) := by decide +kernel
theorem dX11_film_56 : decode cX11_film 56 = .ok (.getfield 260, 3) := by decide +kernel
theorem dX11_film_59 : decode cX11_film 59 = .ok (.iload_n 3, 1) := by decide +kernel
theorem dX11_film_60 : decode cX11_film 60 = .ok (.aload_n 0, 1) := by decide +kernel
theorem dX11_film_61 : decode cX11_film 61 = .ok (.iload_n 2, 1) := by decide +kernel
theorem dX11_film_62 : decode cX11_film 62 = .ok (.iload_n 3, 1) := by decide +kernel
theorem dX11_film_63 : decode cX11_film 63 = .ok (.invokevirtual 184, 3) := by decide +kernel
theorem dX11_film_66 : decode cX11_film 66 = .ok (.getfield 188, 3) := by decide +kernel
theorem dX11_film_69 : decode cX11_film 69 = .ok (.iastore, 1) := by decide +kernel
theorem dX11_film_70 : decode cX11_film 70 = .ok (.iinc 3 1, 3) := by decide +kernel
theorem dX11_film_73 : decode cX11_film 73 = .ok (.goto (-34), 3) := by decide +kernel
theorem dX11_film_76 : decode cX11_film 76 = .ok (.aload_n 0, 1) := by decide +kernel
theorem dX11_film_77 : decode cX11_film 77 = .ok (.getfield 12, 3) := by decide +kernel
theorem dX11_film_80 : decode cX11_film 80 = .ok (.getfield 122, 3) := by decide +kernel
theorem dX11_film_83 : decode cX11_film 83 = .ok (.ireturn, 1) := by decide +kernel
set_option maxRecDepth 100000 in
set_option maxHeartbeats 4000000 in
theorem kX11_film (l : Launch) (w : wT) (hw : yOk w 55) (σ : Hp) (a1 : Int32) (a2 : Int32) (K : Int32 → Hp → Prop) (hv : VX11_film K σ a1 a2) : yMet l w xcf 55 yX11_film cX11_film 4 (some .int) 6 [.ref (w.1 0), .int a1, .int a2] σ (yQi w xcf 55 K) := by
  unfold VX11_film at hv
  refine y_start (lv0 := [(0, .ref (w.1 0)), (1, .int a1), (2, .int a2)]) (by decide +kernel) (own := RX11) rfl hw (Nat.le_of_ble_eq_true rfl) rfl (fun p e s m below meth c A E => ?_)
  have hL39 : ∀ (n39 : Nat) (σ : Hp) (l1 : Int32) (l2 : Int32) (l3 : Int32), VX11_film_L39 K n39 σ l1 l2 l3 → YY p l e (yRm 6) s m [.ref (w.1 0), .int a1, .int a2].toArray below meth c w xcf 55 A (MQ below (yQi w xcf 55 K A) [.ref (w.1 0), .int a1, .int a2].toArray s 0 0 A) 4 σ 39 [(0, .ref (w.1 0)), (1, .int l1), (2, .int l2), (3, .int l3)] [] := by
    intro n39
    induction n39 with
    | zero => exact fun _ _ _ _ hv => (by unfold VX11_film_L39 at hv; exact hv.elim)
    | succ n39 ih39 =>
      intro σ l1 l2 l3 hv
      unfold VX11_film_L39 at hv
      refine y_iload_n E dX11_film_39 3 rfl ?_
      refine y_aload_n E dX11_film_40 0 rfl ?_
      refine gf_X11_0 E (by decide) (by decide) wm_272 dX11_film_41 ?_
      refine gf_X3_5 E (by decide) (by decide) wm_286 dX11_film_44 ?_
      refine y_icmp_ge (tgt := 76) E dX11_film_47 (by decide) (fun c10 => ?_) (fun c10 => ?_)
      · replace hv := ite_t hv c10
        refine y_aload_n E dX11_film_76 0 rfl ?_
        refine gf_X11_0 E (by decide) (by decide) wm_272 dX11_film_77 ?_
        refine gf_X3_5 E (by decide) (by decide) wm_286 dX11_film_80 ?_
        exact y_iret E dX11_film_83 hv
      · replace hv := ite_f hv c10
        refine y_aload_n E dX11_film_50 0 rfl ?_
        refine gf_X11_7 E (by decide) (by decide) wm_406 dX11_film_51 ?_
        refine y_iload_n E dX11_film_54 1 rfl ?_
        obtain ⟨hi, hv⟩ := hv
        refine y_aald (t0 := 2) E (by decide) (xc_rsheets (by decide) (by decide)) rfl hi dX11_film_55 ?_
        refine y_nmr (fun x11 hx11 => ?_)
        replace hv := hv x11 hx11
        have hgx11 : 41 ≤ x11 ∧ x11 < 45 := by have := vp_in_lt hi; omega
        obtain ⟨x12, hx12⟩ : ∃ z : Nat, z = 45 + 1 * (x11 - 41) := ⟨_, rfl⟩
        replace hv := hv x12 hx12
        have hgx12 : 45 ≤ x12 ∧ x12 < 49 := by omega
        refine gf_X6_0 (q := x12) E hgx11.1 hgx11.2 hx12.symm wm_407 dX11_film_56 ?_
        refine y_iload_n E dX11_film_59 3 rfl ?_
        refine y_aload_n E dX11_film_60 0 rfl ?_
        refine y_iload_n E dX11_film_61 2 rfl ?_
        refine y_iload_n E dX11_film_62 3 rfl ?_
        refine y_callr E (y_runV E (rest := [.int l3, .ref (w.1 x12)]) (kX11_behind l w E.2.2.1 σ l2 l3 _ hv) (y_cwV 2 E.1.2.2.2.2 wm_328 wm_331 wm_332 wm_116 wm_333 (by decide +kernel) (yRm_le (by decide) (by decide))) (Nat.lt_of_lt_of_le (show 0 < 1 by decide) (by decide)) (xc_X11 (by decide) (by decide)) rfl rfl rfl (Nat.le_of_ble_eq_true rfl) dX11_film_63) (fun v13 u14 hk => ?_)
        clear hv
        have hv := hk
        clear hk
        obtain ⟨rfl, hv⟩ := hv
        refine gf_X1_6 E (by decide) (by decide) wm_330 dX11_film_66 ?_
        obtain ⟨hi, hv⟩ := hv
        refine y_iast E (Nat.lt_of_lt_of_le hgx12.2 (by decide)) (fun _ => xc_numbers hgx12.1 hgx12.2) hi dX11_film_69 ?_
        refine y_nmH (fun u15 hu15 => ?_)
        replace hv := hv u15 hu15
        obtain ⟨x16, hx16⟩ : ∃ z : Int32, z = l3 + 1 := ⟨_, rfl⟩
        replace hv := hv x16 hx16
        refine y_iinc (v := x16) (lv' := [(3, .int x16), (0, .ref (w.1 0)), (1, .int l1), (2, .int l2)]) E dX11_film_70 3 rfl (by rw [hx16]; rfl) (by decide) rfl ?_
        refine y_goto (tgt := 39) E dX11_film_73 (by decide) ?_
        refine y_lv (lv' := [(0, .ref (w.1 0)), (1, .int l1), (2, .int l2), (3, .int x16)]) [1, 2, 3, 0] rfl ?_
        exact ih39 u15 l1 l2 x16 hv
  refine y_iload_n E dX11_film_0 1 rfl ?_
  refine y_calli E (y_runS E (rest := []) (kX11_isSheet l w E.2.2.1 σ a1 _ hv) (y_cwS 1 E.1.2.2.2.2 wm_409 wm_415 wm_116 wm_416 (by decide +kernel) (yRm_le (by decide) (by decide))) rfl rfl (Nat.le_of_ble_eq_true rfl) dX11_film_1) (fun v1 u2 hk => ?_)
  clear hv
  have hv := hk
  clear hk
  refine y_if_ne (tgt := 10) E dX11_film_4 (by decide) (fun c3 => ?_) (fun c3 => ?_)
  · replace hv := ite_f hv c3
    refine y_iload_n E dX11_film_10 2 rfl ?_
    refine y_calli E (y_runS E (rest := []) (kX11_isBehind l w E.2.2.1 u2 a2 _ hv) (y_cwS 1 E.1.2.2.2.2 wm_326 wm_336 wm_116 wm_337 (by decide +kernel) (yRm_le (by decide) (by decide))) rfl rfl (Nat.le_of_ble_eq_true rfl) dX11_film_11) (fun v4 u5 hk => ?_)
    clear hv
    have hv := hk
    clear hk
    refine y_if_ne (tgt := 20) E dX11_film_14 (by decide) (fun c6 => ?_) (fun c6 => ?_)
    · replace hv := ite_f hv c6
      refine y_aload_n E dX11_film_20 0 rfl ?_
      refine gf_X11_7 E (by decide) (by decide) wm_406 dX11_film_21 ?_
      refine y_iload_n E dX11_film_24 1 rfl ?_
      obtain ⟨hi, hv⟩ := hv
      refine y_aald (t0 := 2) E (by decide) (xc_rsheets (by decide) (by decide)) rfl hi dX11_film_25 ?_
      refine y_nmr (fun x7 hx7 => ?_)
      replace hv := hv x7 hx7
      have hgx7 : 41 ≤ x7 ∧ x7 < 45 := by have := vp_in_lt hi; omega
      refine y_iconst (v := 2) E dX11_film_26 (by decide) ?_
      refine y_aload_n E dX11_film_27 0 rfl ?_
      refine gf_X11_0 E (by decide) (by decide) wm_272 dX11_film_28 ?_
      refine gf_X3_5 E (by decide) (by decide) wm_286 dX11_film_31 ?_
      refine y_callv E (y_runV E (rest := []) (kX6_become l w E.2.2.1 u5 x7 2 (u5 1 5) _ hv) (y_cwV 2 E.1.2.2.2.2 wm_410 wm_411 wm_412 wm_413 wm_414 (by decide +kernel) (yRm_le (by decide) (by decide))) (Nat.lt_of_lt_of_le hgx7.2 (by decide)) (xc_X6 hgx7.1 hgx7.2) rfl rfl rfl (Nat.le_of_ble_eq_true rfl) dX11_film_34) (fun u9 hk => ?_)
      clear hv
      have hv := hk
      clear hk
      refine y_iconst (v := 0) E dX11_film_37 (by decide) ?_
      refine y_istore_n (lv' := [(3, .int 0), (0, .ref (w.1 0)), (1, .int a1), (2, .int a2)]) E dX11_film_38 (by decide) rfl ?_
      refine y_lv (lv' := [(0, .ref (w.1 0)), (1, .int a1), (2, .int a2), (3, .int 0)]) [1, 2, 3, 0] rfl ?_
      obtain ⟨n0, hv⟩ := hv
      exact hL39 n0 u9 a1 a2 0 hv
    · replace hv := ite_t hv c6
      refine y_bipush (v := (-7)) E dX11_film_17 (by decide) ?_
      exact y_iret E dX11_film_19 hv
  · replace hv := ite_t hv c3
    refine y_bipush (v := (-2)) E dX11_film_7 (by decide) ?_
    exact y_iret E dX11_film_9 hv
theorem dX11_countDrawn_0 : decode cX11_countDrawn 0 = .ok (.iload_n 1, 1) := by decide +kernel
theorem dX11_countDrawn_1 : decode cX11_countDrawn 1 = .ok (.iconst 1, 1) := by decide +kernel
theorem dX11_countDrawn_2 : decode cX11_countDrawn 2 = .ok (.iadd, 1) := by decide +kernel
theorem dX11_countDrawn_3 : decode cX11_countDrawn 3 = .ok (.i2l, 1) := by decide +kernel
theorem dX11_countDrawn_4 : decode cX11_countDrawn 4 = .ok (.lstore_n 3, 1) := by decide +kernel
theorem dX11_countDrawn_5 : decode cX11_countDrawn 5 = .ok (.iconst 0, 1) := by decide +kernel
theorem dX11_countDrawn_6 : decode cX11_countDrawn 6 = .ok (.istore 5, 2) := by decide +kernel
theorem dX11_countDrawn_8 : decode cX11_countDrawn 8 = .ok (.iconst 0, 1) := by decide +kernel
theorem dX11_countDrawn_9 : decode cX11_countDrawn 9 = .ok (.istore 6, 2) := by decide +kernel
theorem dX11_countDrawn_11 : decode cX11_countDrawn 11 = .ok (.iload 6, 2) := by decide +kernel
theorem dX11_countDrawn_13 : decode cX11_countDrawn 13 = .ok (.aload_n 0, 1) := by decide +kernel
theorem dX11_countDrawn_14 : decode cX11_countDrawn 14 = .ok (.getfield 12, 3) := by decide +kernel
theorem dX11_countDrawn_17 : decode cX11_countDrawn 17 = .ok (.getfield 122, 3) := by decide +kernel
theorem dX11_countDrawn_20 : decode cX11_countDrawn 20 = .ok (.if_icmp .ge 53, 3) := by decide +kernel
theorem dX11_countDrawn_23 : decode cX11_countDrawn 23 = .ok (.lload_n 3, 1) := by decide +kernel
theorem dX11_countDrawn_24 : decode cX11_countDrawn 24 = .ok (.ldc2_w 332, 3) := by decide +kernel
theorem dX11_countDrawn_27 : decode cX11_countDrawn 27 = .ok (.lmul, 1) := by decide +kernel
theorem dX11_countDrawn_28 : decode cX11_countDrawn 28 = .ok (.ldc2_w 334, 3) := by decide +kernel
theorem dX11_countDrawn_31 : decode cX11_countDrawn 31 = .ok (.lrem, 1) := by decide +kernel
theorem dX11_countDrawn_32 : decode cX11_countDrawn 32 = .ok (.lstore_n 3, 1) := by decide +kernel
theorem dX11_countDrawn_33 : decode cX11_countDrawn 33 = .ok (.lload_n 3, 1) := by decide +kernel
theorem dX11_countDrawn_34 : decode cX11_countDrawn 34 = .ok (.ldc2_w 336, 3) := by decide +kernel
theorem dX11_countDrawn_37 : decode cX11_countDrawn 37 = .ok (.lrem, 1) := by decide +kernel
theorem dX11_countDrawn_38 : decode cX11_countDrawn 38 = .ok (.l2i, 1) := by decide +kernel
theorem dX11_countDrawn_39 : decode cX11_countDrawn 39 = .ok (.istore 7, 2) := by decide +kernel
theorem dX11_countDrawn_41 : decode cX11_countDrawn 41 = .ok (.iload 5, 2) := by decide +kernel
theorem dX11_countDrawn_43 : decode cX11_countDrawn 43 = .ok (.aload_n 0, 1) := by decide +kernel
theorem dX11_countDrawn_44 : decode cX11_countDrawn 44 = .ok (.getfield 63, 3) := by decide +kernel
theorem dX11_countDrawn_47 : decode cX11_countDrawn 47 = .ok (.iconst 5, 1) := by decide +kernel
theorem dX11_countDrawn_48 : decode cX11_countDrawn 48 = .ok (.iload 6, 2) := by decide +kernel
theorem dX11_countDrawn_50 : decode cX11_countDrawn 50 = .ok (.imul, 1) := by decide +kernel
theorem dX11_countDrawn_51 : decode cX11_countDrawn 51 = .ok (.iload 7, 2) := by decide +kernel
theorem dX11_countDrawn_53 : decode cX11_countDrawn 53 = .ok (.iadd, 1) := by decide +kernel
theorem dX11_countDrawn_54 : decode cX11_countDrawn 54 = .ok (.iaload, 1) := by decide +kernel
theorem dX11_countDrawn_55 : decode cX11_countDrawn 55 = .ok (.iload_n 2, 1) := by decide +kernel
theorem dX11_countDrawn_56 : decode cX11_countDrawn 56 = .ok (.if_icmp .ne 7, 3) := by decide +kernel
theorem dX11_countDrawn_59 : decode cX11_countDrawn 59 = .ok (.iconst 1, 1) := by decide +kernel
theorem dX11_countDrawn_60 : decode cX11_countDrawn 60 = .ok (.goto 4, 3) := by decide +kernel
theorem dX11_countDrawn_63 : decode cX11_countDrawn 63 = .ok (.iconst 0, 1) := by decide +kernel
theorem dX11_countDrawn_64 : decode cX11_countDrawn 64 = .ok (.iadd, 1) := by decide +kernel
theorem dX11_countDrawn_65 : decode cX11_countDrawn 65 = .ok (.istore 5, 2) := by decide +kernel
theorem dX11_countDrawn_67 : decode cX11_countDrawn 67 = .ok (.iinc 6 1, 3) := by decide +kernel
theorem dX11_countDrawn_70 : decode cX11_countDrawn 70 = .ok (.goto (-59), 3) := by decide +kernel
theorem dX11_countDrawn_73 : decode cX11_countDrawn 73 = .ok (.iload 5, 2) := by decide +kernel
theorem dX11_countDrawn_75 : decode cX11_countDrawn 75 = .ok (.ireturn, 1) := by decide +kernel
set_option maxRecDepth 100000 in
set_option maxHeartbeats 4000000 in
theorem kX11_countDrawn (l : Launch) (w : wT) (hw : yOk w 55) (σ : Hp) (a1 : Int32) (a2 : Int32) (K : Int32 → Hp → Prop) (hv : VX11_countDrawn K σ a1 a2) : yMet l w xcf 55 yX11_countDrawn cX11_countDrawn 8 (some .int) 1 [.ref (w.1 0), .int a1, .int a2] σ (yQi w xcf 55 K) := by
  unfold VX11_countDrawn at hv
  refine y_start (lv0 := [(0, .ref (w.1 0)), (1, .int a1), (2, .int a2)]) (by decide +kernel) (own := RX11) rfl hw (Nat.le_of_ble_eq_true rfl) rfl (fun p e s m below meth c A E => ?_)
  have hL11 : ∀ (n11 : Nat) (σ : Hp) (l2 : Int32) (l3 : Int64) (l5 : Int32) (l6 : Int32), VX11_countDrawn_L11 K n11 σ l2 l3 l5 l6 → YY p l e (yRm 1) s m [.ref (w.1 0), .int a1, .int a2].toArray below meth c w xcf 55 A (MQ below (yQi w xcf 55 K A) [.ref (w.1 0), .int a1, .int a2].toArray s 0 0 A) 8 σ 11 [(0, .ref (w.1 0)), (2, .int l2), (3, .long l3), (5, .int l5), (6, .int l6)] [] := by
    intro n11
    induction n11 with
    | zero => exact fun _ _ _ _ _ hv => (by unfold VX11_countDrawn_L11 at hv; exact hv.elim)
    | succ n11 ih11 =>
      intro σ l2 l3 l5 l6 hv
      unfold VX11_countDrawn_L11 at hv
      refine y_iload E dX11_countDrawn_11 4 rfl ?_
      refine y_aload_n E dX11_countDrawn_13 0 rfl ?_
      refine gf_X11_0 E (by decide) (by decide) wm_272 dX11_countDrawn_14 ?_
      refine gf_X3_5 E (by decide) (by decide) wm_286 dX11_countDrawn_17 ?_
      refine y_icmp_ge (tgt := 73) E dX11_countDrawn_20 (by decide) (fun c2 => ?_) (fun c2 => ?_)
      · replace hv := ite_t hv c2
        refine y_iload E dX11_countDrawn_73 3 rfl ?_
        exact y_iret E dX11_countDrawn_75 hv
      · replace hv := ite_f hv c2
        refine y_lload_n E dX11_countDrawn_23 2 rfl ?_
        refine y_ldc2 (v := 48271) E wm_473 dX11_countDrawn_24 ?_
        refine y_lmul E dX11_countDrawn_27 ?_
        refine y_ldc2 (v := 2147483647) E wm_474 dX11_countDrawn_28 ?_
        refine y_lrem E dX11_countDrawn_31 (by decide) ?_
        refine y_nml (fun x3 hx3 => ?_)
        replace hv := hv x3 hx3
        refine y_lstore_n (lv' := [(3, .long x3), (0, .ref (w.1 0)), (2, .int l2), (5, .int l5), (6, .int l6)]) E dX11_countDrawn_32 (by decide) rfl ?_
        refine y_lload_n E dX11_countDrawn_33 0 rfl ?_
        refine y_ldc2 (v := 5) E wm_475 dX11_countDrawn_34 ?_
        refine y_lrem E dX11_countDrawn_37 (by decide) ?_
        refine y_l2i E dX11_countDrawn_38 ?_
        refine y_nmi (fun x4 hx4 => ?_)
        replace hv := hv x4 hx4
        refine y_istore (lv' := [(7, .int x4), (3, .long x3), (0, .ref (w.1 0)), (2, .int l2), (5, .int l5), (6, .int l6)]) E dX11_countDrawn_39 (by decide) rfl ?_
        refine y_iload E dX11_countDrawn_41 4 rfl ?_
        refine y_aload_n E dX11_countDrawn_43 2 rfl ?_
        refine gf_X11_12 E (by decide) (by decide) wm_472 dX11_countDrawn_44 ?_
        refine y_iconst (v := 5) E dX11_countDrawn_47 (by decide) ?_
        refine y_iload E dX11_countDrawn_48 5 rfl ?_
        refine y_imul E dX11_countDrawn_50 ?_
        refine y_iload E dX11_countDrawn_51 0 rfl ?_
        refine y_iadd E dX11_countDrawn_53 ?_
        obtain ⟨hi, hv⟩ := hv
        refine y_iald E (Nat.lt_of_lt_of_le (show 53 < 54 by decide) (by decide)) (xc_ends (by decide) (by decide)) hi dX11_countDrawn_54 ?_
        refine y_iload_n E dX11_countDrawn_55 3 rfl ?_
        refine y_icmp_ne (tgt := 63) E dX11_countDrawn_56 (by decide) (fun c5 => ?_) (fun c5 => ?_)
        · replace hv := ite_f hv c5
          refine y_iconst (v := 0) E dX11_countDrawn_63 (by decide) ?_
          refine y_iadd E dX11_countDrawn_64 ?_
          refine y_nmi (fun x6 hx6 => ?_)
          replace hv := hv x6 hx6
          refine y_istore (lv' := [(5, .int x6), (7, .int x4), (3, .long x3), (0, .ref (w.1 0)), (2, .int l2), (6, .int l6)]) E dX11_countDrawn_65 (by decide) rfl ?_
          obtain ⟨x7, hx7⟩ : ∃ z : Int32, z = l6 + 1 := ⟨_, rfl⟩
          replace hv := hv x7 hx7
          refine y_iinc (v := x7) (lv' := [(6, .int x7), (5, .int x6), (7, .int x4), (3, .long x3), (0, .ref (w.1 0)), (2, .int l2)]) E dX11_countDrawn_67 5 rfl (by rw [hx7]; rfl) (by decide) rfl ?_
          refine y_goto (tgt := 11) E dX11_countDrawn_70 (by decide) ?_
          refine y_lv (lv' := [(0, .ref (w.1 0)), (2, .int l2), (3, .long x3), (5, .int x6), (6, .int x7)]) [4, 5, 3, 1, 0] rfl ?_
          exact ih11 σ l2 x3 x6 x7 hv
        · replace hv := ite_t hv c5
          refine y_iconst (v := 1) E dX11_countDrawn_59 (by decide) ?_
          refine y_goto (tgt := 64) E dX11_countDrawn_60 (by decide) ?_
          refine y_iadd E dX11_countDrawn_64 ?_
          refine y_nmi (fun x8 hx8 => ?_)
          replace hv := hv x8 hx8
          refine y_istore (lv' := [(5, .int x8), (7, .int x4), (3, .long x3), (0, .ref (w.1 0)), (2, .int l2), (6, .int l6)]) E dX11_countDrawn_65 (by decide) rfl ?_
          obtain ⟨x9, hx9⟩ : ∃ z : Int32, z = l6 + 1 := ⟨_, rfl⟩
          replace hv := hv x9 hx9
          refine y_iinc (v := x9) (lv' := [(6, .int x9), (5, .int x8), (7, .int x4), (3, .long x3), (0, .ref (w.1 0)), (2, .int l2)]) E dX11_countDrawn_67 5 rfl (by rw [hx9]; rfl) (by decide) rfl ?_
          refine y_goto (tgt := 11) E dX11_countDrawn_70 (by decide) ?_
          refine y_lv (lv' := [(0, .ref (w.1 0)), (2, .int l2), (3, .long x3), (5, .int x8), (6, .int x9)]) [4, 5, 3, 1, 0] rfl ?_
          exact ih11 σ l2 x3 x8 x9 hv
  refine y_iload_n E dX11_countDrawn_0 1 rfl ?_
  refine y_iconst (v := 1) E dX11_countDrawn_1 (by decide) ?_
  refine y_iadd E dX11_countDrawn_2 ?_
  refine y_i2l E dX11_countDrawn_3 ?_
  refine y_nml (fun x1 hx1 => ?_)
  replace hv := hv x1 hx1
  refine y_lstore_n (lv' := [(3, .long x1), (0, .ref (w.1 0)), (1, .int a1), (2, .int a2)]) E dX11_countDrawn_4 (by decide) rfl ?_
  refine y_iconst (v := 0) E dX11_countDrawn_5 (by decide) ?_
  refine y_istore (lv' := [(5, .int 0), (3, .long x1), (0, .ref (w.1 0)), (1, .int a1), (2, .int a2)]) E dX11_countDrawn_6 (by decide) rfl ?_
  refine y_iconst (v := 0) E dX11_countDrawn_8 (by decide) ?_
  refine y_istore (lv' := [(6, .int 0), (5, .int 0), (3, .long x1), (0, .ref (w.1 0)), (1, .int a1), (2, .int a2)]) E dX11_countDrawn_9 (by decide) rfl ?_
  refine y_lv (lv' := [(0, .ref (w.1 0)), (2, .int a2), (3, .long x1), (5, .int 0), (6, .int 0)]) [3, 5, 2, 1, 0] rfl ?_
  obtain ⟨n0, hv⟩ := hv
  exact hL11 n0 σ a2 x1 0 0 hv
theorem dX11_isSeed_0 : decode cX11_isSeed 0 = .ok (.iload_n 0, 1) := by decide +kernel
theorem dX11_isSeed_1 : decode cX11_isSeed 1 = .ok (.ifCond .lt 14, 3) := by decide +kernel
theorem dX11_isSeed_4 : decode cX11_isSeed 4 = .ok (.iload_n 0, 1) := by decide +kernel
theorem dX11_isSeed_5 : decode cX11_isSeed 5 = .ok (.ldc_w 310, 3) := by decide +kernel
theorem dX11_isSeed_8 : decode cX11_isSeed 8 = .ok (.if_icmp .gt 7, 3) := by decide +kernel
theorem dX11_isSeed_11 : decode cX11_isSeed 11 = .ok (.iconst 1, 1) := by decide +kernel
theorem dX11_isSeed_12 : decode cX11_isSeed 12 = .ok (.goto 4, 3) := by decide +kernel
theorem dX11_isSeed_15 : decode cX11_isSeed 15 = .ok (.iconst 0, 1) := by decide +kernel
theorem dX11_isSeed_16 : decode cX11_isSeed 16 = .ok (.ireturn, 1) := by decide +kernel
set_option maxRecDepth 100000 in
set_option maxHeartbeats 4000000 in
theorem kX11_isSeed (l : Launch) (w : wT) (hw : yOk w 55) (σ : Hp) (a1 : Int32) (K : Int32 → Hp → Prop) (hv : VX11_isSeed K σ a1) : yMet l w xcf 55 yX11_isSeed cX11_isSeed 1 (some .boolean) 1 [.int a1] σ (yQi w xcf 55 K) := by
  unfold VX11_isSeed at hv
  refine y_start (lv0 := [(0, .int a1)]) (by decide +kernel) (own := RX11) rfl hw (Nat.le_of_ble_eq_true rfl) rfl (fun p e s m below meth c A E => ?_)
  refine y_iload_n E dX11_isSeed_0 0 rfl ?_
  refine y_if_lt (tgt := 15) E dX11_isSeed_1 (by decide) (fun c1 => ?_) (fun c1 => ?_)
  · replace hv := ite_t hv c1
    refine y_iconst (v := 0) E dX11_isSeed_15 (by decide) ?_
    exact y_nret E dX11_isSeed_16 (by decide) hv
  · replace hv := ite_f hv c1
    refine y_iload_n E dX11_isSeed_4 0 rfl ?_
    refine y_ldcw (v := 99999) E wm_456 dX11_isSeed_5 ?_
    refine y_icmp_gt (tgt := 15) E dX11_isSeed_8 (by decide) (fun c2 => ?_) (fun c2 => ?_)
    · replace hv := ite_t hv c2
      refine y_iconst (v := 0) E dX11_isSeed_15 (by decide) ?_
      exact y_nret E dX11_isSeed_16 (by decide) hv
    · replace hv := ite_f hv c2
      refine y_iconst (v := 1) E dX11_isSeed_11 (by decide) ?_
      refine y_goto (tgt := 16) E dX11_isSeed_12 (by decide) ?_
      exact y_nret E dX11_isSeed_16 (by decide) hv
theorem dX11_listEnds_0 : decode cX11_listEnds 0 = .ok (.iconst 0, 1) := by decide +kernel
theorem dX11_listEnds_1 : decode cX11_listEnds 1 = .ok (.istore_n 2, 1) := by decide +kernel
theorem dX11_listEnds_2 : decode cX11_listEnds 2 = .ok (.iload_n 2, 1) := by decide +kernel
theorem dX11_listEnds_3 : decode cX11_listEnds 3 = .ok (.aload_n 0, 1) := by decide +kernel
theorem dX11_listEnds_4 : decode cX11_listEnds 4 = .ok (.getfield 12, 3) := by decide +kernel
theorem dX11_listEnds_7 : decode cX11_listEnds 7 = .ok (.getfield 122, 3) := by decide +kernel
theorem dX11_listEnds_10 : decode cX11_listEnds 10 = .ok (.if_icmp .ge 39, 3) := by decide +kernel
theorem dX11_listEnds_13 : decode cX11_listEnds 13 = .ok (.iconst 0, 1) := by decide +kernel
theorem dX11_listEnds_14 : decode cX11_listEnds 14 = .ok (.istore_n 3, 1) := by decide +kernel
theorem dX11_listEnds_15 : decode cX11_listEnds 15 = .ok (.iload_n 3, 1) := by decide +kernel
theorem dX11_listEnds_16 : decode cX11_listEnds 16 = .ok (.iconst 5, 1) := by decide +kernel
theorem dX11_listEnds_17 : decode cX11_listEnds 17 = .ok (.if_icmp .ge 26, 3) := by decide +kernel
theorem dX11_listEnds_20 : decode cX11_listEnds 20 = .ok (.aload_n 0, 1) := by decide +kernel
theorem dX11_listEnds_21 : decode cX11_listEnds 21 = .ok (.getfield 63, 3) := by decide +kernel
theorem dX11_listEnds_24 : decode cX11_listEnds 24 = .ok (.iconst 5, 1) := by decide +kernel
theorem dX11_listEnds_25 : decode cX11_listEnds 25 = .ok (.iload_n 2, 1) := by decide +kernel
theorem dX11_listEnds_26 : decode cX11_listEnds 26 = .ok (.imul, 1) := by decide +kernel
theorem dX11_listEnds_27 : decode cX11_listEnds 27 = .ok (.iload_n 3, 1) := by decide +kernel
theorem dX11_listEnds_28 : decode cX11_listEnds 28 = .ok (.iadd, 1) := by decide +kernel
theorem dX11_listEnds_29 : decode cX11_listEnds 29 = .ok (.aload_n 0, 1) := by decide +kernel
theorem dX11_listEnds_30 : decode cX11_listEnds 30 = .ok (.iload_n 2, 1) := by decide +kernel
theorem dX11_listEnds_31 : decode cX11_listEnds 31 = .ok (.iload_n 3, 1) := by decide +kernel
theorem dX11_listEnds_32 : decode cX11_listEnds 32 = .ok (.iload_n 1, 1) := by decide +kernel
theorem dX11_listEnds_33 : decode cX11_listEnds 33 = .ok (.invokevirtual 236, 3) := by decide +kernel
theorem dX11_listEnds_36 : decode cX11_listEnds 36 = .ok (.iastore, 1) := by decide +kernel
theorem dX11_listEnds_37 : decode cX11_listEnds 37 = .ok (.iinc 3 1, 3) := by decide +kernel
theorem dX11_listEnds_40 : decode cX11_listEnds 40 = .ok (.goto (-25), 3) := by decide +kernel
theorem dX11_listEnds_43 : decode cX11_listEnds 43 = .ok (.iinc 2 1, 3) := by decide +kernel
theorem dX11_listEnds_46 : decode cX11_listEnds 46 = .ok (.goto (-44), 3) := by decide +kernel
theorem dX11_listEnds_49 : decode cX11_listEnds 49 = .ok (.return_, 1) := by decide +kernel
set_option maxRecDepth 100000 in
set_option maxHeartbeats 4000000 in
theorem kX11_listEnds (l : Launch) (w : wT) (hw : yOk w 55) (σ : Hp) (a1 : Int32) (K : Hp → Prop) (hv : VX11_listEnds K σ a1) : yMet l w xcf 55 yX11_listEnds cX11_listEnds 4 none 6 [.ref (w.1 0), .int a1] σ (yQv w xcf 55 K) := by
  unfold VX11_listEnds at hv
  refine y_start (lv0 := [(0, .ref (w.1 0)), (1, .int a1)]) (by decide +kernel) (own := RX11) rfl hw (Nat.le_of_ble_eq_true rfl) rfl (fun p e s m below meth c A E => ?_)
  have hL2 : ∀ (n2 : Nat) (σ : Hp) (l1 : Int32) (l2 : Int32), VX11_listEnds_L2 K n2 σ l1 l2 → YY p l e (yRm 6) s m [.ref (w.1 0), .int a1].toArray below meth c w xcf 55 A (MQ below (yQv w xcf 55 K A) [.ref (w.1 0), .int a1].toArray s 0 0 A) 4 σ 2 [(0, .ref (w.1 0)), (1, .int l1), (2, .int l2)] [] := by
    intro n2
    induction n2 with
    | zero => exact fun _ _ _ hv => (by unfold VX11_listEnds_L2 at hv; exact hv.elim)
    | succ n2 ih2 =>
      have hL15 : ∀ (n15 : Nat) (σ : Hp) (l1 : Int32) (l2 : Int32) (l3 : Int32), VX11_listEnds_L15 K (VX11_listEnds_L2 K n2) n15 σ l1 l2 l3 → YY p l e (yRm 6) s m [.ref (w.1 0), .int a1].toArray below meth c w xcf 55 A (MQ below (yQv w xcf 55 K A) [.ref (w.1 0), .int a1].toArray s 0 0 A) 4 σ 15 [(0, .ref (w.1 0)), (1, .int l1), (2, .int l2), (3, .int l3)] [] := by
        intro n15
        induction n15 with
        | zero => exact fun _ _ _ _ hv => (by unfold VX11_listEnds_L15 at hv; exact hv.elim)
        | succ n15 ih15 =>
          intro σ l1 l2 l3 hv
          unfold VX11_listEnds_L15 at hv
          refine y_iload_n E dX11_listEnds_15 3 rfl ?_
          refine y_iconst (v := 5) E dX11_listEnds_16 (by decide) ?_
          refine y_icmp_ge (tgt := 43) E dX11_listEnds_17 (by decide) (fun c2 => ?_) (fun c2 => ?_)
          · replace hv := ite_t hv c2
            obtain ⟨x3, hx3⟩ : ∃ z : Int32, z = l2 + 1 := ⟨_, rfl⟩
            replace hv := hv x3 hx3
            refine y_iinc (v := x3) (lv' := [(2, .int x3), (0, .ref (w.1 0)), (1, .int l1), (3, .int l3)]) E dX11_listEnds_43 2 rfl (by rw [hx3]; rfl) (by decide) rfl ?_
            refine y_goto (tgt := 2) E dX11_listEnds_46 (by decide) ?_
            refine y_lv (lv' := [(0, .ref (w.1 0)), (1, .int l1), (2, .int x3)]) [1, 2, 0] rfl ?_
            exact ih2 σ l1 x3 hv
          · replace hv := ite_f hv c2
            refine y_aload_n E dX11_listEnds_20 0 rfl ?_
            refine gf_X11_12 E (by decide) (by decide) wm_472 dX11_listEnds_21 ?_
            refine y_iconst (v := 5) E dX11_listEnds_24 (by decide) ?_
            refine y_iload_n E dX11_listEnds_25 2 rfl ?_
            refine y_imul E dX11_listEnds_26 ?_
            refine y_iload_n E dX11_listEnds_27 3 rfl ?_
            refine y_iadd E dX11_listEnds_28 ?_
            refine y_aload_n E dX11_listEnds_29 0 rfl ?_
            refine y_iload_n E dX11_listEnds_30 2 rfl ?_
            refine y_iload_n E dX11_listEnds_31 3 rfl ?_
            refine y_iload_n E dX11_listEnds_32 1 rfl ?_
            refine y_calli E (y_runV E (rest := [.int ((5 * l2) + l3), .ref (w.1 53)]) (kX11_endOf l w E.2.2.1 σ l2 l3 l1 _ hv) (y_cwV 3 E.1.2.2.2.2 wm_380 wm_381 wm_382 wm_116 wm_383 (by decide +kernel) (yRm_le (by decide) (by decide))) (Nat.lt_of_lt_of_le (show 0 < 1 by decide) (by decide)) (xc_X11 (by decide) (by decide)) rfl rfl rfl (Nat.le_of_ble_eq_true rfl) dX11_listEnds_33) (fun v4 u5 hk => ?_)
            clear hv
            have hv := hk
            clear hk
            obtain ⟨hi, hv⟩ := hv
            refine y_iast E (Nat.lt_of_lt_of_le (show 53 < 54 by decide) (by decide)) (fun _ => xc_ends (by decide) (by decide)) hi dX11_listEnds_36 ?_
            refine y_nmH (fun u6 hu6 => ?_)
            replace hv := hv u6 hu6
            obtain ⟨x7, hx7⟩ : ∃ z : Int32, z = l3 + 1 := ⟨_, rfl⟩
            replace hv := hv x7 hx7
            refine y_iinc (v := x7) (lv' := [(3, .int x7), (0, .ref (w.1 0)), (1, .int l1), (2, .int l2)]) E dX11_listEnds_37 3 rfl (by rw [hx7]; rfl) (by decide) rfl ?_
            refine y_goto (tgt := 15) E dX11_listEnds_40 (by decide) ?_
            refine y_lv (lv' := [(0, .ref (w.1 0)), (1, .int l1), (2, .int l2), (3, .int x7)]) [1, 2, 3, 0] rfl ?_
            exact ih15 u6 l1 l2 x7 hv
      intro σ l1 l2 hv
      unfold VX11_listEnds_L2 at hv
      refine y_iload_n E dX11_listEnds_2 2 rfl ?_
      refine y_aload_n E dX11_listEnds_3 0 rfl ?_
      refine gf_X11_0 E (by decide) (by decide) wm_272 dX11_listEnds_4 ?_
      refine gf_X3_5 E (by decide) (by decide) wm_286 dX11_listEnds_7 ?_
      refine y_icmp_ge (tgt := 49) E dX11_listEnds_10 (by decide) (fun c1 => ?_) (fun c1 => ?_)
      · replace hv := ite_t hv c1
        exact y_vret E dX11_listEnds_49 hv
      · replace hv := ite_f hv c1
        refine y_iconst (v := 0) E dX11_listEnds_13 (by decide) ?_
        refine y_istore_n (lv' := [(3, .int 0), (0, .ref (w.1 0)), (1, .int l1), (2, .int l2)]) E dX11_listEnds_14 (by decide) rfl ?_
        refine y_lv (lv' := [(0, .ref (w.1 0)), (1, .int l1), (2, .int l2), (3, .int 0)]) [1, 2, 3, 0] rfl ?_
        obtain ⟨n0, hv⟩ := hv
        exact hL15 n0 σ l1 l2 0 hv
  refine y_iconst (v := 0) E dX11_listEnds_0 (by decide) ?_
  refine y_istore_n (lv' := [(2, .int 0), (0, .ref (w.1 0)), (1, .int a1)]) E dX11_listEnds_1 (by decide) rfl ?_
  refine y_lv (lv' := [(0, .ref (w.1 0)), (1, .int a1), (2, .int 0)]) [1, 2, 0] rfl ?_
  obtain ⟨n0, hv⟩ := hv
  exact hL2 n0 σ a1 0 hv
theorem dX11_drawn_0 : decode cX11_drawn 0 = .ok (.iload_n 1, 1) := by decide +kernel
theorem dX11_drawn_1 : decode cX11_drawn 1 = .ok (.invokestatic 271, 3) := by decide +kernel
theorem dX11_drawn_4 : decode cX11_drawn 4 = .ok (.ifCond .eq 17, 3) := by decide +kernel
theorem dX11_drawn_7 : decode cX11_drawn 7 = .ok (.iload_n 2, 1) := by decide +kernel
theorem dX11_drawn_8 : decode cX11_drawn 8 = .ok (.invokestatic 178, 3) := by decide +kernel
theorem dX11_drawn_11 : decode cX11_drawn 11 = .ok (.ifCond .eq 10, 3) := by decide +kernel
theorem dX11_drawn_14 : decode cX11_drawn 14 = .ok (.iload_n 3, 1) := by decide +kernel
theorem dX11_drawn_15 : decode cX11_drawn 15 = .ok (.invokestatic 97, 3) := by decide +kernel
theorem dX11_drawn_18 : decode cX11_drawn 18 = .ok (.ifCond .ne 6, 3) := by decide +kernel
theorem dX11_drawn_21 : decode cX11_drawn 21 = .ok (.bipush (-2), 2) := by decide +kernel
theorem dX11_drawn_23 : decode cX11_drawn 23 = .ok (.ireturn, 1) := by decide +kernel
theorem dX11_drawn_24 : decode cX11_drawn 24 = .ok (.aload_n 0, 1) := by decide +kernel
theorem dX11_drawn_25 : decode cX11_drawn 25 = .ok (.iload_n 2, 1) := by decide +kernel
theorem dX11_drawn_26 : decode cX11_drawn 26 = .ok (.invokevirtual 274, 3) := by decide +kernel
theorem dX11_drawn_29 : decode cX11_drawn 29 = .ok (.aload_n 0, 1) := by decide +kernel
theorem dX11_drawn_30 : decode cX11_drawn 30 = .ok (.iload_n 1, 1) := by decide +kernel
theorem dX11_drawn_31 : decode cX11_drawn 31 = .ok (.iload_n 3, 1) := by decide +kernel
theorem dX11_drawn_32 : decode cX11_drawn 32 = .ok (.invokevirtual 277, 3) := by decide +kernel
theorem dX11_drawn_35 : decode cX11_drawn 35 = .ok (.ireturn, 1) := by decide +kernel
set_option maxRecDepth 100000 in
set_option maxHeartbeats 4000000 in
theorem kX11_drawn (l : Launch) (w : wT) (hw : yOk w 55) (σ : Hp) (a1 : Int32) (a2 : Int32) (a3 : Int32) (K : Int32 → Hp → Prop) (hv : VX11_drawn K σ a1 a2 a3) : yMet l w xcf 55 yX11_drawn cX11_drawn 4 (some .int) 7 [.ref (w.1 0), .int a1, .int a2, .int a3] σ (yQi w xcf 55 K) := by
  unfold VX11_drawn at hv
  refine y_start (lv0 := [(0, .ref (w.1 0)), (1, .int a1), (2, .int a2), (3, .int a3)]) (by decide +kernel) (own := RX11) rfl hw (Nat.le_of_ble_eq_true rfl) rfl (fun p e s m below meth c A E => ?_)
  refine y_iload_n E dX11_drawn_0 1 rfl ?_
  refine y_calli E (y_runS E (rest := []) (kX11_isSeed l w E.2.2.1 σ a1 _ hv) (y_cwS 1 E.1.2.2.2.2 wm_417 wm_426 wm_116 wm_427 (by decide +kernel) (yRm_le (by decide) (by decide))) rfl rfl (Nat.le_of_ble_eq_true rfl) dX11_drawn_1) (fun v1 u2 hk => ?_)
  clear hv
  have hv := hk
  clear hk
  refine y_if_eq (tgt := 21) E dX11_drawn_4 (by decide) (fun c3 => ?_) (fun c3 => ?_)
  · replace hv := ite_t hv c3
    refine y_bipush (v := (-2)) E dX11_drawn_21 (by decide) ?_
    exact y_iret E dX11_drawn_23 hv
  · replace hv := ite_f hv c3
    refine y_iload_n E dX11_drawn_7 2 rfl ?_
    refine y_calli E (y_runS E (rest := []) (kX11_isBehind l w E.2.2.1 u2 a2 _ hv) (y_cwS 1 E.1.2.2.2.2 wm_326 wm_336 wm_116 wm_337 (by decide +kernel) (yRm_le (by decide) (by decide))) rfl rfl (Nat.le_of_ble_eq_true rfl) dX11_drawn_8) (fun v4 u5 hk => ?_)
    clear hv
    have hv := hk
    clear hk
    refine y_if_eq (tgt := 21) E dX11_drawn_11 (by decide) (fun c6 => ?_) (fun c6 => ?_)
    · replace hv := ite_t hv c6
      refine y_bipush (v := (-2)) E dX11_drawn_21 (by decide) ?_
      exact y_iret E dX11_drawn_23 hv
    · replace hv := ite_f hv c6
      refine y_iload_n E dX11_drawn_14 3 rfl ?_
      refine y_calli E (y_runS E (rest := []) (kX11_isCell l w E.2.2.1 u5 a3 _ hv) (y_cwS 1 E.1.2.2.2.2 wm_265 wm_270 wm_116 wm_271 (by decide +kernel) (yRm_le (by decide) (by decide))) rfl rfl (Nat.le_of_ble_eq_true rfl) dX11_drawn_15) (fun v7 u8 hk => ?_)
      clear hv
      have hv := hk
      clear hk
      refine y_if_ne (tgt := 24) E dX11_drawn_18 (by decide) (fun c9 => ?_) (fun c9 => ?_)
      · replace hv := ite_f hv c9
        refine y_aload_n E dX11_drawn_24 0 rfl ?_
        refine y_iload_n E dX11_drawn_25 2 rfl ?_
        refine y_callv E (y_runV E (rest := []) (kX11_listEnds l w E.2.2.1 u8 a2 _ hv) (y_cwV 1 E.1.2.2.2.2 wm_418 wm_423 wm_424 wm_116 wm_425 (by decide +kernel) (yRm_le (by decide) (by decide))) (Nat.lt_of_lt_of_le (show 0 < 1 by decide) (by decide)) (xc_X11 (by decide) (by decide)) rfl rfl rfl (Nat.le_of_ble_eq_true rfl) dX11_drawn_26) (fun u11 hk => ?_)
        clear hv
        have hv := hk
        clear hk
        refine y_aload_n E dX11_drawn_29 0 rfl ?_
        refine y_iload_n E dX11_drawn_30 1 rfl ?_
        refine y_iload_n E dX11_drawn_31 3 rfl ?_
        refine y_calli E (y_runV E (rest := []) (kX11_countDrawn l w E.2.2.1 u11 a1 a3 _ hv) (y_cwV 2 E.1.2.2.2.2 wm_419 wm_420 wm_421 wm_116 wm_422 (by decide +kernel) (yRm_le (by decide) (by decide))) (Nat.lt_of_lt_of_le (show 0 < 1 by decide) (by decide)) (xc_X11 (by decide) (by decide)) rfl rfl rfl (Nat.le_of_ble_eq_true rfl) dX11_drawn_32) (fun v12 u13 hk => ?_)
        clear hv
        have hv := hk
        clear hk
        exact y_iret E dX11_drawn_35 hv
      · replace hv := ite_t hv c9
        refine y_bipush (v := (-2)) E dX11_drawn_21 (by decide) ?_
        exact y_iret E dX11_drawn_23 hv
theorem dX11_mean_0 : decode cX11_mean 0 = .ok (.iload_n 1, 1) := by decide +kernel
theorem dX11_mean_1 : decode cX11_mean 1 = .ok (.invokestatic 271, 3) := by decide +kernel
theorem dX11_mean_4 : decode cX11_mean 4 = .ok (.ifCond .eq 18, 3) := by decide +kernel
theorem dX11_mean_7 : decode cX11_mean 7 = .ok (.iload_n 2, 1) := by decide +kernel
theorem dX11_mean_8 : decode cX11_mean 8 = .ok (.iconst 1, 1) := by decide +kernel
theorem dX11_mean_9 : decode cX11_mean 9 = .ok (.if_icmp .lt 13, 3) := by decide +kernel
theorem dX11_mean_12 : decode cX11_mean 12 = .ok (.iload_n 2, 1) := by decide +kernel
theorem dX11_mean_13 : decode cX11_mean 13 = .ok (.bipush 40, 2) := by decide +kernel
theorem dX11_mean_15 : decode cX11_mean 15 = .ok (.if_icmp .gt 7, 3) := by decide +kernel
theorem dX11_mean_18 : decode cX11_mean 18 = .ok (.iload_n 3, 1) := by decide +kernel
theorem dX11_mean_19 : decode cX11_mean 19 = .ok (.ifCond .ge 7, 3) := by decide +kernel
theorem dX11_mean_22 : decode cX11_mean 22 = .ok (.ldc2_w 242, 3) := by decide +kernel
theorem dX11_mean_25 : decode cX11_mean 25 = .ok (.lreturn, 1) := by decide +kernel
theorem dX11_mean_26 : decode cX11_mean 26 = .ok (.iload_n 3, 1) := by decide +kernel
theorem dX11_mean_27 : decode cX11_mean 27 = .ok (.bipush 100, 2) := by decide +kernel
theorem dX11_mean_29 : decode cX11_mean 29 = .ok (.idiv, 1) := by decide +kernel
theorem dX11_mean_30 : decode cX11_mean 30 = .ok (.invokestatic 178, 3) := by decide +kernel
theorem dX11_mean_33 : decode cX11_mean 33 = .ok (.ifCond .eq 21, 3) := by decide +kernel
theorem dX11_mean_36 : decode cX11_mean 36 = .ok (.iload_n 3, 1) := by decide +kernel
theorem dX11_mean_37 : decode cX11_mean 37 = .ok (.bipush 100, 2) := by decide +kernel
theorem dX11_mean_39 : decode cX11_mean 39 = .ok (.irem, 1) := by decide +kernel
theorem dX11_mean_40 : decode cX11_mean 40 = .ok (.invokestatic 97, 3) := by decide +kernel
theorem dX11_mean_43 : decode cX11_mean 43 = .ok (.ifCond .eq 11, 3) := by decide +kernel
theorem dX11_mean_46 : decode cX11_mean 46 = .ok (.iload 4, 2) := by decide +kernel
theorem dX11_mean_48 : decode cX11_mean 48 = .ok (.invokestatic 181, 3) := by decide +kernel
theorem dX11_mean_51 : decode cX11_mean 51 = .ok (.ifCond .ne 7, 3) := by decide +kernel
theorem dX11_mean_54 : decode cX11_mean 54 = .ok (.ldc2_w 242, 3) := by decide +kernel
theorem dX11_mean_57 : decode cX11_mean 57 = .ok (.lreturn, 1) := by decide +kernel
theorem dX11_mean_58 : decode cX11_mean 58 = .ok (.aload_n 0, 1) := by decide +kernel
theorem dX11_mean_59 : decode cX11_mean 59 = .ok (.iload_n 3, 1) := by decide +kernel
theorem dX11_mean_60 : decode cX11_mean 60 = .ok (.bipush 100, 2) := by decide +kernel
theorem dX11_mean_62 : decode cX11_mean 62 = .ok (.idiv, 1) := by decide +kernel
theorem dX11_mean_63 : decode cX11_mean 63 = .ok (.invokevirtual 274, 3) := by decide +kernel
theorem dX11_mean_66 : decode cX11_mean 66 = .ok (.iconst 0, 1) := by decide +kernel
theorem dX11_mean_67 : decode cX11_mean 67 = .ok (.istore 5, 2) := by decide +kernel
theorem dX11_mean_69 : decode cX11_mean 69 = .ok (.iconst 0, 1) := by decide +kernel
theorem dX11_mean_70 : decode cX11_mean 70 = .ok (.istore 6, 2) := by decide +kernel
theorem dX11_mean_72 : decode cX11_mean 72 = .ok (.iload 6, 2) := by decide +kernel
theorem dX11_mean_74 : decode cX11_mean 74 = .ok (.iload_n 2, 1) := by decide +kernel
theorem dX11_mean_75 : decode cX11_mean 75 = .ok (.if_icmp .ge 26, 3) := by decide +kernel
theorem dX11_mean_78 : decode cX11_mean 78 = .ok (.iload 5, 2) := by decide +kernel
theorem dX11_mean_80 : decode cX11_mean 80 = .ok (.aload_n 0, 1) := by decide +kernel
theorem dX11_mean_81 : decode cX11_mean 81 = .ok (.iload_n 1, 1) := by decide +kernel
theorem dX11_mean_82 : decode cX11_mean 82 = .ok (.iload 6, 2) := by decide +kernel
theorem dX11_mean_84 : decode cX11_mean 84 = .ok (.iadd, 1) := by decide +kernel
theorem dX11_mean_85 : decode cX11_mean 85 = .ok (.iload_n 3, 1) := by decide +kernel
theorem dX11_mean_86 : decode cX11_mean 86 = .ok (.bipush 100, 2) := by decide +kernel
theorem dX11_mean_88 : decode cX11_mean 88 = .ok (.irem, 1) := by decide +kernel
theorem dX11_mean_89 : decode cX11_mean 89 = .ok (.invokevirtual 277, 3) := by decide +kernel
theorem dX11_mean_92 : decode cX11_mean 92 = .ok (.iadd, 1) := by decide +kernel
theorem dX11_mean_93 : decode cX11_mean 93 = .ok (.istore 5, 2) := by decide +kernel
theorem dX11_mean_95 : decode cX11_mean 95 = .ok (.iinc 6 1, 3) := by decide +kernel
theorem dX11_mean_98 : decode cX11_mean 98 = .ok (.goto (-26), 3) := by decide +kernel
theorem dX11_mean_101 : decode cX11_mean 101 = .ok (.iload 5, 2) := by decide +kernel
theorem dX11_mean_103 : decode cX11_mean 103 = .ok (.iload_n 2, 1) := by decide +kernel
theorem dX11_mean_104 : decode cX11_mean 104 = .ok (.iload 4, 2) := by decide +kernel
theorem dX11_mean_106 : decode cX11_mean 106 = .ok (.invokestatic 247, 3) := by decide +kernel
theorem dX11_mean_109 : decode cX11_mean 109 = .ok (.lreturn, 1) := by decide +kernel
set_option maxRecDepth 100000 in
set_option maxHeartbeats 4000000 in
theorem kX11_mean (l : Launch) (w : wT) (hw : yOk w 55) (σ : Hp) (a1 : Int32) (a2 : Int32) (a3 : Int32) (a4 : Int32) (K : Int64 → Hp → Prop) (hv : VX11_mean K σ a1 a2 a3 a4) : yMet l w xcf 55 yX11_mean cX11_mean 7 (some .long) 7 [.ref (w.1 0), .int a1, .int a2, .int a3, .int a4] σ (yQl w xcf 55 K) := by
  unfold VX11_mean at hv
  refine y_start (lv0 := [(0, .ref (w.1 0)), (1, .int a1), (2, .int a2), (3, .int a3), (4, .int a4)]) (by decide +kernel) (own := RX11) rfl hw (Nat.le_of_ble_eq_true rfl) rfl (fun p e s m below meth c A E => ?_)
  have hL72 : ∀ (n72 : Nat) (σ : Hp) (l1 : Int32) (l2 : Int32) (l3 : Int32) (l4 : Int32) (l5 : Int32) (l6 : Int32), VX11_mean_L72 K n72 σ l1 l2 l3 l4 l5 l6 → YY p l e (yRm 7) s m [.ref (w.1 0), .int a1, .int a2, .int a3, .int a4].toArray below meth c w xcf 55 A (MQ below (yQl w xcf 55 K A) [.ref (w.1 0), .int a1, .int a2, .int a3, .int a4].toArray s 0 0 A) 7 σ 72 [(0, .ref (w.1 0)), (1, .int l1), (2, .int l2), (3, .int l3), (4, .int l4), (5, .int l5), (6, .int l6)] [] := by
    intro n72
    induction n72 with
    | zero => exact fun _ _ _ _ _ _ _ hv => (by unfold VX11_mean_L72 at hv; exact hv.elim)
    | succ n72 ih72 =>
      intro σ l1 l2 l3 l4 l5 l6 hv
      unfold VX11_mean_L72 at hv
      refine y_iload E dX11_mean_72 6 rfl ?_
      refine y_iload_n E dX11_mean_74 2 rfl ?_
      refine y_icmp_ge (tgt := 101) E dX11_mean_75 (by decide) (fun c18 => ?_) (fun c18 => ?_)
      · replace hv := ite_t hv c18
        refine y_iload E dX11_mean_101 5 rfl ?_
        refine y_iload_n E dX11_mean_103 2 rfl ?_
        refine y_iload E dX11_mean_104 4 rfl ?_
        refine y_calll E (y_runS E (rest := []) (kX11_fraction l w E.2.2.1 σ l5 l2 l4 _ hv) (y_cwS 3 E.1.2.2.2.2 wm_390 wm_391 wm_116 wm_392 (by decide +kernel) (yRm_le (by decide) (by decide))) rfl rfl (Nat.le_of_ble_eq_true rfl) dX11_mean_106) (fun v19 u20 hk => ?_)
        clear hv
        have hv := hk
        clear hk
        exact y_lret E dX11_mean_109 hv
      · replace hv := ite_f hv c18
        refine y_iload E dX11_mean_78 5 rfl ?_
        refine y_aload_n E dX11_mean_80 0 rfl ?_
        refine y_iload_n E dX11_mean_81 1 rfl ?_
        refine y_iload E dX11_mean_82 6 rfl ?_
        refine y_iadd E dX11_mean_84 ?_
        refine y_iload_n E dX11_mean_85 3 rfl ?_
        refine y_bipush (v := 100) E dX11_mean_86 (by decide) ?_
        refine y_irem E dX11_mean_88 (by decide) ?_
        refine y_calli E (y_runV E (rest := [.int l5]) (kX11_countDrawn l w E.2.2.1 σ (l1 + l6) (jrem l3 100) _ hv) (y_cwV 2 E.1.2.2.2.2 wm_419 wm_420 wm_421 wm_116 wm_422 (by decide +kernel) (yRm_le (by decide) (by decide))) (Nat.lt_of_lt_of_le (show 0 < 1 by decide) (by decide)) (xc_X11 (by decide) (by decide)) rfl rfl rfl (Nat.le_of_ble_eq_true rfl) dX11_mean_89) (fun v21 u22 hk => ?_)
        clear hv
        have hv := hk
        clear hk
        refine y_iadd E dX11_mean_92 ?_
        refine y_nmi (fun x23 hx23 => ?_)
        replace hv := hv x23 hx23
        refine y_istore (lv' := [(5, .int x23), (0, .ref (w.1 0)), (1, .int l1), (2, .int l2), (3, .int l3), (4, .int l4), (6, .int l6)]) E dX11_mean_93 (by decide) rfl ?_
        obtain ⟨x24, hx24⟩ : ∃ z : Int32, z = l6 + 1 := ⟨_, rfl⟩
        replace hv := hv x24 hx24
        refine y_iinc (v := x24) (lv' := [(6, .int x24), (5, .int x23), (0, .ref (w.1 0)), (1, .int l1), (2, .int l2), (3, .int l3), (4, .int l4)]) E dX11_mean_95 6 rfl (by rw [hx24]; rfl) (by decide) rfl ?_
        refine y_goto (tgt := 72) E dX11_mean_98 (by decide) ?_
        refine y_lv (lv' := [(0, .ref (w.1 0)), (1, .int l1), (2, .int l2), (3, .int l3), (4, .int l4), (5, .int x23), (6, .int x24)]) [2, 3, 4, 5, 6, 1, 0] rfl ?_
        exact ih72 u22 l1 l2 l3 l4 x23 x24 hv
  refine y_iload_n E dX11_mean_0 1 rfl ?_
  refine y_calli E (y_runS E (rest := []) (kX11_isSeed l w E.2.2.1 σ a1 _ hv) (y_cwS 1 E.1.2.2.2.2 wm_417 wm_426 wm_116 wm_427 (by decide +kernel) (yRm_le (by decide) (by decide))) rfl rfl (Nat.le_of_ble_eq_true rfl) dX11_mean_1) (fun v1 u2 hk => ?_)
  clear hv
  have hv := hk
  clear hk
  refine y_if_eq (tgt := 22) E dX11_mean_4 (by decide) (fun c3 => ?_) (fun c3 => ?_)
  · replace hv := ite_t hv c3
    refine y_ldc2 (v := (-4611686018427387904)) E wm_389 dX11_mean_22 ?_
    exact y_lret E dX11_mean_25 hv
  · replace hv := ite_f hv c3
    refine y_iload_n E dX11_mean_7 2 rfl ?_
    refine y_iconst (v := 1) E dX11_mean_8 (by decide) ?_
    refine y_icmp_lt (tgt := 22) E dX11_mean_9 (by decide) (fun c4 => ?_) (fun c4 => ?_)
    · replace hv := ite_t hv c4
      refine y_ldc2 (v := (-4611686018427387904)) E wm_389 dX11_mean_22 ?_
      exact y_lret E dX11_mean_25 hv
    · replace hv := ite_f hv c4
      refine y_iload_n E dX11_mean_12 2 rfl ?_
      refine y_bipush (v := 40) E dX11_mean_13 (by decide) ?_
      refine y_icmp_gt (tgt := 22) E dX11_mean_15 (by decide) (fun c5 => ?_) (fun c5 => ?_)
      · replace hv := ite_t hv c5
        refine y_ldc2 (v := (-4611686018427387904)) E wm_389 dX11_mean_22 ?_
        exact y_lret E dX11_mean_25 hv
      · replace hv := ite_f hv c5
        refine y_iload_n E dX11_mean_18 3 rfl ?_
        refine y_if_ge (tgt := 26) E dX11_mean_19 (by decide) (fun c6 => ?_) (fun c6 => ?_)
        · replace hv := ite_t hv c6
          refine y_iload_n E dX11_mean_26 3 rfl ?_
          refine y_bipush (v := 100) E dX11_mean_27 (by decide) ?_
          refine y_idiv E dX11_mean_29 (by decide) ?_
          refine y_calli E (y_runS E (rest := []) (kX11_isBehind l w E.2.2.1 u2 (a3 / 100) _ hv) (y_cwS 1 E.1.2.2.2.2 wm_326 wm_336 wm_116 wm_337 (by decide +kernel) (yRm_le (by decide) (by decide))) rfl rfl (Nat.le_of_ble_eq_true rfl) dX11_mean_30) (fun v7 u8 hk => ?_)
          clear hv
          have hv := hk
          clear hk
          refine y_if_eq (tgt := 54) E dX11_mean_33 (by decide) (fun c9 => ?_) (fun c9 => ?_)
          · replace hv := ite_t hv c9
            refine y_ldc2 (v := (-4611686018427387904)) E wm_389 dX11_mean_54 ?_
            exact y_lret E dX11_mean_57 hv
          · replace hv := ite_f hv c9
            refine y_iload_n E dX11_mean_36 3 rfl ?_
            refine y_bipush (v := 100) E dX11_mean_37 (by decide) ?_
            refine y_irem E dX11_mean_39 (by decide) ?_
            refine y_calli E (y_runS E (rest := []) (kX11_isCell l w E.2.2.1 u8 (jrem a3 100) _ hv) (y_cwS 1 E.1.2.2.2.2 wm_265 wm_270 wm_116 wm_271 (by decide +kernel) (yRm_le (by decide) (by decide))) rfl rfl (Nat.le_of_ble_eq_true rfl) dX11_mean_40) (fun v10 u11 hk => ?_)
            clear hv
            have hv := hk
            clear hk
            refine y_if_eq (tgt := 54) E dX11_mean_43 (by decide) (fun c12 => ?_) (fun c12 => ?_)
            · replace hv := ite_t hv c12
              refine y_ldc2 (v := (-4611686018427387904)) E wm_389 dX11_mean_54 ?_
              exact y_lret E dX11_mean_57 hv
            · replace hv := ite_f hv c12
              refine y_iload E dX11_mean_46 4 rfl ?_
              refine y_calli E (y_runS E (rest := []) (kX11_isChoice l w E.2.2.1 u11 a4 _ hv) (y_cwS 1 E.1.2.2.2.2 wm_327 wm_334 wm_116 wm_335 (by decide +kernel) (yRm_le (by decide) (by decide))) rfl rfl (Nat.le_of_ble_eq_true rfl) dX11_mean_48) (fun v13 u14 hk => ?_)
              clear hv
              have hv := hk
              clear hk
              refine y_if_ne (tgt := 58) E dX11_mean_51 (by decide) (fun c15 => ?_) (fun c15 => ?_)
              · replace hv := ite_f hv c15
                refine y_aload_n E dX11_mean_58 0 rfl ?_
                refine y_iload_n E dX11_mean_59 3 rfl ?_
                refine y_bipush (v := 100) E dX11_mean_60 (by decide) ?_
                refine y_idiv E dX11_mean_62 (by decide) ?_
                refine y_callv E (y_runV E (rest := []) (kX11_listEnds l w E.2.2.1 u14 (a3 / 100) _ hv) (y_cwV 1 E.1.2.2.2.2 wm_418 wm_423 wm_424 wm_116 wm_425 (by decide +kernel) (yRm_le (by decide) (by decide))) (Nat.lt_of_lt_of_le (show 0 < 1 by decide) (by decide)) (xc_X11 (by decide) (by decide)) rfl rfl rfl (Nat.le_of_ble_eq_true rfl) dX11_mean_63) (fun u17 hk => ?_)
                clear hv
                have hv := hk
                clear hk
                refine y_iconst (v := 0) E dX11_mean_66 (by decide) ?_
                refine y_istore (lv' := [(5, .int 0), (0, .ref (w.1 0)), (1, .int a1), (2, .int a2), (3, .int a3), (4, .int a4)]) E dX11_mean_67 (by decide) rfl ?_
                refine y_iconst (v := 0) E dX11_mean_69 (by decide) ?_
                refine y_istore (lv' := [(6, .int 0), (5, .int 0), (0, .ref (w.1 0)), (1, .int a1), (2, .int a2), (3, .int a3), (4, .int a4)]) E dX11_mean_70 (by decide) rfl ?_
                refine y_lv (lv' := [(0, .ref (w.1 0)), (1, .int a1), (2, .int a2), (3, .int a3), (4, .int a4), (5, .int 0), (6, .int 0)]) [2, 3, 4, 5, 6, 1, 0] rfl ?_
                obtain ⟨n0, hv⟩ := hv
                exact hL72 n0 u17 a1 a2 a3 a4 0 0 hv
              · replace hv := ite_t hv c15
                refine y_ldc2 (v := (-4611686018427387904)) E wm_389 dX11_mean_54 ?_
                exact y_lret E dX11_mean_57 hv
        · replace hv := ite_f hv c6
          refine y_ldc2 (v := (-4611686018427387904)) E wm_389 dX11_mean_22 ?_
          exact y_lret E dX11_mean_25 hv
theorem dX11_image_0 : decode cX11_image 0 = .ok (.aload_n 0, 1) := by decide +kernel
theorem dX11_image_1 : decode cX11_image 1 = .ok (.getfield 16, 3) := by decide +kernel
theorem dX11_image_4 : decode cX11_image 4 = .ok (.aload_n 0, 1) := by decide +kernel
theorem dX11_image_5 : decode cX11_image 5 = .ok (.getfield 12, 3) := by decide +kernel
theorem dX11_image_8 : decode cX11_image 8 = .ok (.invokevirtual 280, 3) := by decide +kernel
theorem dX11_image_11 : decode cX11_image 11 = .ok (.aload_n 0, 1) := by decide +kernel
theorem dX11_image_12 : decode cX11_image 12 = .ok (.iconst 1, 1) := by decide +kernel
theorem dX11_image_13 : decode cX11_image 13 = .ok (.putfield 282, 3) := by decide +kernel
theorem dX11_image_16 : decode cX11_image 16 = .ok (.aload_n 0, 1) := by decide +kernel
theorem dX11_image_17 : decode cX11_image 17 = .ok (.getfield 12, 3) := by decide +kernel
theorem dX11_image_20 : decode cX11_image 20 = .ok (.getfield 122, 3) := by decide +kernel
theorem dX11_image_23 : decode cX11_image 23 = .ok (.ireturn, 1) := by decide +kernel
set_option maxRecDepth 100000 in
set_option maxHeartbeats 4000000 in
theorem kX11_image (l : Launch) (w : wT) (hw : yOk w 55) (σ : Hp)  (K : Int32 → Hp → Prop) (hv : VX11_image K σ ) : yMet l w xcf 55 yX11_image cX11_image 1 (some .int) 2 [.ref (w.1 0)] σ (yQi w xcf 55 K) := by
  unfold VX11_image at hv
  refine y_start (lv0 := [(0, .ref (w.1 0))]) (by decide +kernel) (own := RX11) rfl hw (Nat.le_of_ble_eq_true rfl) rfl (fun p e s m below meth c A E => ?_)
  refine y_aload_n E dX11_image_0 0 rfl ?_
  refine gf_X11_1 E (by decide) (by decide) wm_428 dX11_image_1 ?_
  refine y_aload_n E dX11_image_4 0 rfl ?_
  refine gf_X11_0 E (by decide) (by decide) wm_272 dX11_image_5 ?_
  refine y_callv E (y_runV E (rest := []) (kX3_become l w E.2.2.1 σ 2 1 _ hv) (y_cwV 1 E.1.2.2.2.2 wm_429 wm_431 wm_432 wm_123 wm_433 (by decide +kernel) (yRm_le (by decide) (by decide))) (Nat.lt_of_lt_of_le (show 2 < 3 by decide) (by decide)) (xc_X3 (by decide) (by decide)) rfl rfl rfl (Nat.le_of_ble_eq_true rfl) dX11_image_8) (fun u2 hk => ?_)
  clear hv
  have hv := hk
  clear hk
  refine y_aload_n E dX11_image_11 0 rfl ?_
  refine y_iconst (v := 1) E dX11_image_12 (by decide) ?_
  refine pf_X11_2 E (by decide) (by decide) (by decide) (by decide) wm_430 dX11_image_13 ?_
  refine y_nmH (fun u3 hu3 => ?_)
  replace hv := hv u3 hu3
  refine y_aload_n E dX11_image_16 0 rfl ?_
  refine gf_X11_0 E (by decide) (by decide) wm_272 dX11_image_17 ?_
  refine gf_X3_5 E (by decide) (by decide) wm_286 dX11_image_20 ?_
  exact y_iret E dX11_image_23 hv
theorem dX11_back_0 : decode cX11_back 0 = .ok (.aload_n 0, 1) := by decide +kernel
theorem dX11_back_1 : decode cX11_back 1 = .ok (.getfield 282, 3) := by decide +kernel
theorem dX11_back_4 : decode cX11_back 4 = .ok (.ifCond .ne 6, 3) := by decide +kernel
theorem dX11_back_7 : decode cX11_back 7 = .ok (.bipush (-3), 2) := by decide +kernel
theorem dX11_back_9 : decode cX11_back 9 = .ok (.ireturn, 1) := by decide +kernel
theorem dX11_back_10 : decode cX11_back 10 = .ok (.aload_n 0, 1) := by decide +kernel
theorem dX11_back_11 : decode cX11_back 11 = .ok (.getfield 12, 3) := by decide +kernel
theorem dX11_back_14 : decode cX11_back 14 = .ok (.aload_n 0, 1) := by decide +kernel
theorem dX11_back_15 : decode cX11_back 15 = .ok (.getfield 16, 3) := by decide +kernel
theorem dX11_back_18 : decode cX11_back 18 = .ok (.invokevirtual 280, 3) := by decide +kernel
theorem dX11_back_21 : decode cX11_back 21 = .ok (.aload_n 0, 1) := by decide +kernel
theorem dX11_back_22 : decode cX11_back 22 = .ok (.getfield 12, 3) := by decide +kernel
theorem dX11_back_25 : decode cX11_back 25 = .ok (.getfield 122, 3) := by decide +kernel
theorem dX11_back_28 : decode cX11_back 28 = .ok (.ireturn, 1) := by decide +kernel
set_option maxRecDepth 100000 in
set_option maxHeartbeats 4000000 in
theorem kX11_back (l : Launch) (w : wT) (hw : yOk w 55) (σ : Hp)  (K : Int32 → Hp → Prop) (hv : VX11_back K σ ) : yMet l w xcf 55 yX11_back cX11_back 1 (some .int) 2 [.ref (w.1 0)] σ (yQi w xcf 55 K) := by
  unfold VX11_back at hv
  refine y_start (lv0 := [(0, .ref (w.1 0))]) (by decide +kernel) (own := RX11) rfl hw (Nat.le_of_ble_eq_true rfl) rfl (fun p e s m below meth c A E => ?_)
  refine y_aload_n E dX11_back_0 0 rfl ?_
  refine gf_X11_2 E (by decide) (by decide) wm_430 dX11_back_1 ?_
  refine y_if_ne (tgt := 10) E dX11_back_4 (by decide) (fun c1 => ?_) (fun c1 => ?_)
  · replace hv := ite_f hv c1
    refine y_aload_n E dX11_back_10 0 rfl ?_
    refine gf_X11_0 E (by decide) (by decide) wm_272 dX11_back_11 ?_
    refine y_aload_n E dX11_back_14 0 rfl ?_
    refine gf_X11_1 E (by decide) (by decide) wm_428 dX11_back_15 ?_
    refine y_callv E (y_runV E (rest := []) (kX3_become l w E.2.2.1 σ 1 2 _ hv) (y_cwV 1 E.1.2.2.2.2 wm_429 wm_431 wm_432 wm_123 wm_433 (by decide +kernel) (yRm_le (by decide) (by decide))) (Nat.lt_of_lt_of_le (show 1 < 3 by decide) (by decide)) (xc_X3 (by decide) (by decide)) rfl rfl rfl (Nat.le_of_ble_eq_true rfl) dX11_back_18) (fun u3 hk => ?_)
    clear hv
    have hv := hk
    clear hk
    refine y_aload_n E dX11_back_21 0 rfl ?_
    refine gf_X11_0 E (by decide) (by decide) wm_272 dX11_back_22 ?_
    refine gf_X3_5 E (by decide) (by decide) wm_286 dX11_back_25 ?_
    exact y_iret E dX11_back_28 hv
  · replace hv := ite_t hv c1
    refine y_bipush (v := (-3)) E dX11_back_7 (by decide) ?_
    exact y_iret E dX11_back_9 hv
theorem dX11_sheet_0 : decode cX11_sheet 0 = .ok (.iload_n 1, 1) := by decide +kernel
theorem dX11_sheet_1 : decode cX11_sheet 1 = .ok (.invokestatic 265, 3) := by decide +kernel
theorem dX11_sheet_4 : decode cX11_sheet 4 = .ok (.ifCond .eq 13, 3) := by decide +kernel
theorem dX11_sheet_7 : decode cX11_sheet 7 = .ok (.iload_n 2, 1) := by decide +kernel
theorem dX11_sheet_8 : decode cX11_sheet 8 = .ok (.iconst (-1), 1) := by decide +kernel
theorem dX11_sheet_9 : decode cX11_sheet 9 = .ok (.if_icmp .lt 8, 3) := by decide +kernel
theorem dX11_sheet_12 : decode cX11_sheet 12 = .ok (.iload_n 2, 1) := by decide +kernel
theorem dX11_sheet_13 : decode cX11_sheet 13 = .ok (.iconst 2, 1) := by decide +kernel
theorem dX11_sheet_14 : decode cX11_sheet 14 = .ok (.if_icmp .le 6, 3) := by decide +kernel
theorem dX11_sheet_17 : decode cX11_sheet 17 = .ok (.bipush (-2), 2) := by decide +kernel
theorem dX11_sheet_19 : decode cX11_sheet 19 = .ok (.ireturn, 1) := by decide +kernel
theorem dX11_sheet_20 : decode cX11_sheet 20 = .ok (.iload_n 2, 1) := by decide +kernel
theorem dX11_sheet_21 : decode cX11_sheet 21 = .ok (.iconst (-1), 1) := by decide +kernel
theorem dX11_sheet_22 : decode cX11_sheet 22 = .ok (.if_icmp .ne 16, 3) := by decide +kernel
theorem dX11_sheet_25 : decode cX11_sheet 25 = .ok (.aload_n 0, 1) := by decide +kernel
theorem dX11_sheet_26 : decode cX11_sheet 26 = .ok (.getfield 40, 3) := by decide +kernel
theorem dX11_sheet_29 : decode cX11_sheet 29 = .ok (.iload_n 1, 1) := by decide +kernel
theorem dX11_sheet_30 : decode cX11_sheet 30 = .ok (.aaload, 1) := by decide +kernel
theorem dX11_sheet_31 : decode cX11_sheet 31 = .ok (.iconst (-1), 1) := by decide +kernel
theorem dX11_sheet_32 : decode cX11_sheet 32 = .ok (.iconst 0, 1) := by decide +kernel
theorem dX11_sheet_33 : decode cX11_sheet 33 = .ok (.invokevirtual 268, 3) := by decide +kernel
theorem dX11_sheet_36 : decode cX11_sheet 36 = .ok (.iconst 1, 1) := by decide +kernel
theorem dX11_sheet_37 : decode cX11_sheet 37 = .ok (.ireturn, 1) := by decide +kernel
theorem dX11_sheet_38 : decode cX11_sheet 38 = .ok (.iload_n 3, 1) := by decide +kernel
theorem dX11_sheet_39 : decode cX11_sheet 39 = .ok (.bipush 40, 2) := by decide +kernel
theorem dX11_sheet_41 : decode cX11_sheet 41 = .ok (.if_icmp .le 6, 3) := by decide +kernel
theorem dX11_sheet_44 : decode cX11_sheet 44 = .ok (.bipush (-2), 2) := by decide +kernel
theorem dX11_sheet_46 : decode cX11_sheet 46 = .ok (.ireturn, 1) := by decide +kernel
theorem dX11_sheet_47 : decode cX11_sheet 47 = .ok (.iload_n 3, 1) := by decide +kernel
theorem dX11_sheet_48 : decode cX11_sheet 48 = .ok (.ifCond .ge 6, 3) := by decide +kernel
theorem dX11_sheet_51 : decode cX11_sheet 51 = .ok (.bipush (-14), 2) := by decide +kernel
theorem dX11_sheet_53 : decode cX11_sheet 53 = .ok (.ireturn, 1) := by decide +kernel
theorem dX11_sheet_54 : decode cX11_sheet 54 = .ok (.aload_n 0, 1) := by decide +kernel
theorem dX11_sheet_55 : decode cX11_sheet 55 = .ok (.getfield 40, 3) := by decide +kernel
theorem dX11_sheet_58 : decode cX11_sheet 58 = .ok (.iload_n 1, 1) := by decide +kernel
theorem dX11_sheet_59 : decode cX11_sheet 59 = .ok (.aaload, 1) := by decide +kernel
theorem dX11_sheet_60 : decode cX11_sheet 60 = .ok (.iload_n 2, 1) := by decide +kernel
theorem dX11_sheet_61 : decode cX11_sheet 61 = .ok (.iload_n 3, 1) := by decide +kernel
theorem dX11_sheet_62 : decode cX11_sheet 62 = .ok (.invokevirtual 268, 3) := by decide +kernel
theorem dX11_sheet_65 : decode cX11_sheet 65 = .ok (.iconst 1, 1) := by decide +kernel
theorem dX11_sheet_66 : decode cX11_sheet 66 = .ok (.ireturn, 1) := by decide +kernel
set_option maxRecDepth 100000 in
set_option maxHeartbeats 4000000 in
theorem kX11_sheet (l : Launch) (w : wT) (hw : yOk w 55) (σ : Hp) (a1 : Int32) (a2 : Int32) (a3 : Int32) (K : Int32 → Hp → Prop) (hv : VX11_sheet K σ a1 a2 a3) : yMet l w xcf 55 yX11_sheet cX11_sheet 4 (some .int) 2 [.ref (w.1 0), .int a1, .int a2, .int a3] σ (yQi w xcf 55 K) := by
  unfold VX11_sheet at hv
  refine y_start (lv0 := [(0, .ref (w.1 0)), (1, .int a1), (2, .int a2), (3, .int a3)]) (by decide +kernel) (own := RX11) rfl hw (Nat.le_of_ble_eq_true rfl) rfl (fun p e s m below meth c A E => ?_)
  refine y_iload_n E dX11_sheet_0 1 rfl ?_
  refine y_calli E (y_runS E (rest := []) (kX11_isSheet l w E.2.2.1 σ a1 _ hv) (y_cwS 1 E.1.2.2.2.2 wm_409 wm_415 wm_116 wm_416 (by decide +kernel) (yRm_le (by decide) (by decide))) rfl rfl (Nat.le_of_ble_eq_true rfl) dX11_sheet_1) (fun v1 u2 hk => ?_)
  clear hv
  have hv := hk
  clear hk
  refine y_if_eq (tgt := 17) E dX11_sheet_4 (by decide) (fun c3 => ?_) (fun c3 => ?_)
  · replace hv := ite_t hv c3
    refine y_bipush (v := (-2)) E dX11_sheet_17 (by decide) ?_
    exact y_iret E dX11_sheet_19 hv
  · replace hv := ite_f hv c3
    refine y_iload_n E dX11_sheet_7 2 rfl ?_
    refine y_iconst (v := (-1)) E dX11_sheet_8 (by decide) ?_
    refine y_icmp_lt (tgt := 17) E dX11_sheet_9 (by decide) (fun c4 => ?_) (fun c4 => ?_)
    · replace hv := ite_t hv c4
      refine y_bipush (v := (-2)) E dX11_sheet_17 (by decide) ?_
      exact y_iret E dX11_sheet_19 hv
    · replace hv := ite_f hv c4
      refine y_iload_n E dX11_sheet_12 2 rfl ?_
      refine y_iconst (v := 2) E dX11_sheet_13 (by decide) ?_
      refine y_icmp_le (tgt := 20) E dX11_sheet_14 (by decide) (fun c5 => ?_) (fun c5 => ?_)
      · replace hv := ite_t hv c5
        refine y_iload_n E dX11_sheet_20 2 rfl ?_
        refine y_iconst (v := (-1)) E dX11_sheet_21 (by decide) ?_
        refine y_icmp_ne (tgt := 38) E dX11_sheet_22 (by decide) (fun c6 => ?_) (fun c6 => ?_)
        · replace hv := ite_f hv c6
          refine y_iload_n E dX11_sheet_38 3 rfl ?_
          refine y_bipush (v := 40) E dX11_sheet_39 (by decide) ?_
          refine y_icmp_le (tgt := 47) E dX11_sheet_41 (by decide) (fun c7 => ?_) (fun c7 => ?_)
          · replace hv := ite_t hv c7
            refine y_iload_n E dX11_sheet_47 3 rfl ?_
            refine y_if_ge (tgt := 54) E dX11_sheet_48 (by decide) (fun c8 => ?_) (fun c8 => ?_)
            · replace hv := ite_t hv c8
              refine y_aload_n E dX11_sheet_54 0 rfl ?_
              refine gf_X11_7 E (by decide) (by decide) wm_406 dX11_sheet_55 ?_
              refine y_iload_n E dX11_sheet_58 1 rfl ?_
              obtain ⟨hi, hv⟩ := hv
              refine y_aald (t0 := 2) E (by decide) (xc_rsheets (by decide) (by decide)) rfl hi dX11_sheet_59 ?_
              refine y_nmr (fun x9 hx9 => ?_)
              replace hv := hv x9 hx9
              have hgx9 : 41 ≤ x9 ∧ x9 < 45 := by have := vp_in_lt hi; omega
              refine y_iload_n E dX11_sheet_60 2 rfl ?_
              refine y_iload_n E dX11_sheet_61 3 rfl ?_
              refine y_callv E (y_runV E (rest := []) (kX6_become l w E.2.2.1 u2 x9 a2 a3 _ hv) (y_cwV 2 E.1.2.2.2.2 wm_410 wm_411 wm_412 wm_413 wm_414 (by decide +kernel) (yRm_le (by decide) (by decide))) (Nat.lt_of_lt_of_le hgx9.2 (by decide)) (xc_X6 hgx9.1 hgx9.2) rfl rfl rfl (Nat.le_of_ble_eq_true rfl) dX11_sheet_62) (fun u11 hk => ?_)
              clear hv
              have hv := hk
              clear hk
              refine y_iconst (v := 1) E dX11_sheet_65 (by decide) ?_
              exact y_iret E dX11_sheet_66 hv
            · replace hv := ite_f hv c8
              refine y_bipush (v := (-14)) E dX11_sheet_51 (by decide) ?_
              exact y_iret E dX11_sheet_53 hv
          · replace hv := ite_f hv c7
            refine y_bipush (v := (-2)) E dX11_sheet_44 (by decide) ?_
            exact y_iret E dX11_sheet_46 hv
        · replace hv := ite_t hv c6
          refine y_aload_n E dX11_sheet_25 0 rfl ?_
          refine gf_X11_7 E (by decide) (by decide) wm_406 dX11_sheet_26 ?_
          refine y_iload_n E dX11_sheet_29 1 rfl ?_
          obtain ⟨hi, hv⟩ := hv
          refine y_aald (t0 := 2) E (by decide) (xc_rsheets (by decide) (by decide)) rfl hi dX11_sheet_30 ?_
          refine y_nmr (fun x12 hx12 => ?_)
          replace hv := hv x12 hx12
          have hgx12 : 41 ≤ x12 ∧ x12 < 45 := by have := vp_in_lt hi; omega
          refine y_iconst (v := (-1)) E dX11_sheet_31 (by decide) ?_
          refine y_iconst (v := 0) E dX11_sheet_32 (by decide) ?_
          refine y_callv E (y_runV E (rest := []) (kX6_become l w E.2.2.1 u2 x12 (-1) 0 _ hv) (y_cwV 2 E.1.2.2.2.2 wm_410 wm_411 wm_412 wm_413 wm_414 (by decide +kernel) (yRm_le (by decide) (by decide))) (Nat.lt_of_lt_of_le hgx12.2 (by decide)) (xc_X6 hgx12.1 hgx12.2) rfl rfl rfl (Nat.le_of_ble_eq_true rfl) dX11_sheet_33) (fun u14 hk => ?_)
          clear hv
          have hv := hk
          clear hk
          refine y_iconst (v := 1) E dX11_sheet_36 (by decide) ?_
          exact y_iret E dX11_sheet_37 hv
      · replace hv := ite_f hv c5
        refine y_bipush (v := (-2)) E dX11_sheet_17 (by decide) ?_
        exact y_iret E dX11_sheet_19 hv
theorem dX11_cell_0 : decode cX11_cell 0 = .ok (.iload_n 1, 1) := by decide +kernel
theorem dX11_cell_1 : decode cX11_cell 1 = .ok (.invokestatic 265, 3) := by decide +kernel
theorem dX11_cell_4 : decode cX11_cell 4 = .ok (.ifCond .ne 6, 3) := by decide +kernel
theorem dX11_cell_7 : decode cX11_cell 7 = .ok (.bipush (-2), 2) := by decide +kernel
theorem dX11_cell_9 : decode cX11_cell 9 = .ok (.ireturn, 1) := by decide +kernel
theorem dX11_cell_10 : decode cX11_cell 10 = .ok (.aload_n 0, 1) := by decide +kernel
theorem dX11_cell_11 : decode cX11_cell 11 = .ok (.getfield 40, 3) := by decide +kernel
theorem dX11_cell_14 : decode cX11_cell 14 = .ok (.iload_n 1, 1) := by decide +kernel
theorem dX11_cell_15 : decode cX11_cell 15 = .ok (.aaload, 1) := by decide +kernel
theorem dX11_cell_16 : decode cX11_cell 16 = .ok (.getfield 286, 3) := by decide +kernel
theorem dX11_cell_19 : decode cX11_cell 19 = .ok (.iconst (-1), 1) := by decide +kernel
theorem dX11_cell_20 : decode cX11_cell 20 = .ok (.if_icmp .ne 6, 3) := by decide +kernel
theorem dX11_cell_23 : decode cX11_cell 23 = .ok (.bipush (-11), 2) := by decide +kernel
theorem dX11_cell_25 : decode cX11_cell 25 = .ok (.ireturn, 1) := by decide +kernel
theorem dX11_cell_26 : decode cX11_cell 26 = .ok (.aload_n 0, 1) := by decide +kernel
theorem dX11_cell_27 : decode cX11_cell 27 = .ok (.getfield 40, 3) := by decide +kernel
theorem dX11_cell_30 : decode cX11_cell 30 = .ok (.iload_n 1, 1) := by decide +kernel
theorem dX11_cell_31 : decode cX11_cell 31 = .ok (.aaload, 1) := by decide +kernel
theorem dX11_cell_32 : decode cX11_cell 32 = .ok (.iload_n 2, 1) := by decide +kernel
theorem dX11_cell_33 : decode cX11_cell 33 = .ok (.iconst 1, 1) := by decide +kernel
theorem dX11_cell_34 : decode cX11_cell 34 = .ok (.invokevirtual 289, 3) := by decide +kernel
theorem dX11_cell_37 : decode cX11_cell 37 = .ok (.ifCond .ne 6, 3) := by decide +kernel
theorem dX11_cell_40 : decode cX11_cell 40 = .ok (.bipush (-12), 2) := by decide +kernel
theorem dX11_cell_42 : decode cX11_cell 42 = .ok (.ireturn, 1) := by decide +kernel
theorem dX11_cell_43 : decode cX11_cell 43 = .ok (.aload_n 0, 1) := by decide +kernel
theorem dX11_cell_44 : decode cX11_cell 44 = .ok (.getfield 40, 3) := by decide +kernel
theorem dX11_cell_47 : decode cX11_cell 47 = .ok (.iload_n 1, 1) := by decide +kernel
theorem dX11_cell_48 : decode cX11_cell 48 = .ok (.aaload, 1) := by decide +kernel
theorem dX11_cell_49 : decode cX11_cell 49 = .ok (.iload_n 2, 1) := by decide +kernel
theorem dX11_cell_50 : decode cX11_cell 50 = .ok (.iload_n 3, 1) := by decide +kernel
theorem dX11_cell_51 : decode cX11_cell 51 = .ok (.invokevirtual 292, 3) := by decide +kernel
theorem dX11_cell_54 : decode cX11_cell 54 = .ok (.iconst 1, 1) := by decide +kernel
theorem dX11_cell_55 : decode cX11_cell 55 = .ok (.ireturn, 1) := by decide +kernel
set_option maxRecDepth 100000 in
set_option maxHeartbeats 4000000 in
theorem kX11_cell (l : Launch) (w : wT) (hw : yOk w 55) (σ : Hp) (a1 : Int32) (a2 : Int32) (a3 : Int32) (K : Int32 → Hp → Prop) (hv : VX11_cell K σ a1 a2 a3) : yMet l w xcf 55 yX11_cell cX11_cell 4 (some .int) 2 [.ref (w.1 0), .int a1, .int a2, .int a3] σ (yQi w xcf 55 K) := by
  unfold VX11_cell at hv
  refine y_start (lv0 := [(0, .ref (w.1 0)), (1, .int a1), (2, .int a2), (3, .int a3)]) (by decide +kernel) (own := RX11) rfl hw (Nat.le_of_ble_eq_true rfl) rfl (fun p e s m below meth c A E => ?_)
  refine y_iload_n E dX11_cell_0 1 rfl ?_
  refine y_calli E (y_runS E (rest := []) (kX11_isSheet l w E.2.2.1 σ a1 _ hv) (y_cwS 1 E.1.2.2.2.2 wm_409 wm_415 wm_116 wm_416 (by decide +kernel) (yRm_le (by decide) (by decide))) rfl rfl (Nat.le_of_ble_eq_true rfl) dX11_cell_1) (fun v1 u2 hk => ?_)
  clear hv
  have hv := hk
  clear hk
  refine y_if_ne (tgt := 10) E dX11_cell_4 (by decide) (fun c3 => ?_) (fun c3 => ?_)
  · replace hv := ite_f hv c3
    refine y_aload_n E dX11_cell_10 0 rfl ?_
    refine gf_X11_7 E (by decide) (by decide) wm_406 dX11_cell_11 ?_
    refine y_iload_n E dX11_cell_14 1 rfl ?_
    obtain ⟨hi, hv⟩ := hv
    refine y_aald (t0 := 2) E (by decide) (xc_rsheets (by decide) (by decide)) rfl hi dX11_cell_15 ?_
    refine y_nmr (fun x4 hx4 => ?_)
    replace hv := hv x4 hx4
    have hgx4 : 41 ≤ x4 ∧ x4 < 45 := by have := vp_in_lt hi; omega
    refine gf_X6_1 E hgx4.1 hgx4.2 wm_434 dX11_cell_16 ?_
    refine y_iconst (v := (-1)) E dX11_cell_19 (by decide) ?_
    refine y_icmp_ne (tgt := 26) E dX11_cell_20 (by decide) (fun c5 => ?_) (fun c5 => ?_)
    · replace hv := ite_f hv c5
      refine y_aload_n E dX11_cell_26 0 rfl ?_
      refine gf_X11_7 E (by decide) (by decide) wm_406 dX11_cell_27 ?_
      refine y_iload_n E dX11_cell_30 1 rfl ?_
      obtain ⟨hi, hv⟩ := hv
      refine y_aald (t0 := 2) E (by decide) (xc_rsheets (by decide) (by decide)) rfl hi dX11_cell_31 ?_
      refine y_nmr (fun x6 hx6 => ?_)
      replace hv := hv x6 hx6
      have hgx6 : 41 ≤ x6 ∧ x6 < 45 := by have := vp_in_lt hi; omega
      refine y_iload_n E dX11_cell_32 2 rfl ?_
      refine y_iconst (v := 1) E dX11_cell_33 (by decide) ?_
      refine y_calli E (y_runV E (rest := []) (kX6_holds l w E.2.2.1 u2 x6 a2 1 _ hv) (y_cwV 2 E.1.2.2.2.2 wm_435 wm_440 wm_441 wm_413 wm_442 (by decide +kernel) (yRm_le (by decide) (by decide))) (Nat.lt_of_lt_of_le hgx6.2 (by decide)) (xc_X6 hgx6.1 hgx6.2) rfl rfl rfl (Nat.le_of_ble_eq_true rfl) dX11_cell_34) (fun v7 u8 hk => ?_)
      clear hv
      have hv := hk
      clear hk
      refine y_if_ne (tgt := 43) E dX11_cell_37 (by decide) (fun c9 => ?_) (fun c9 => ?_)
      · replace hv := ite_f hv c9
        refine y_aload_n E dX11_cell_43 0 rfl ?_
        refine gf_X11_7 E (by decide) (by decide) wm_406 dX11_cell_44 ?_
        refine y_iload_n E dX11_cell_47 1 rfl ?_
        obtain ⟨hi, hv⟩ := hv
        refine y_aald (t0 := 2) E (by decide) (xc_rsheets (by decide) (by decide)) rfl hi dX11_cell_48 ?_
        refine y_nmr (fun x10 hx10 => ?_)
        replace hv := hv x10 hx10
        have hgx10 : 41 ≤ x10 ∧ x10 < 45 := by have := vp_in_lt hi; omega
        refine y_iload_n E dX11_cell_49 2 rfl ?_
        refine y_iload_n E dX11_cell_50 3 rfl ?_
        refine y_callv E (y_runV E (rest := []) (kX6_write l w E.2.2.1 u8 x10 a2 a3 _ hv) (y_cwV 2 E.1.2.2.2.2 wm_436 wm_437 wm_438 wm_413 wm_439 (by decide +kernel) (yRm_le (by decide) (by decide))) (Nat.lt_of_lt_of_le hgx10.2 (by decide)) (xc_X6 hgx10.1 hgx10.2) rfl rfl rfl (Nat.le_of_ble_eq_true rfl) dX11_cell_51) (fun u12 hk => ?_)
        clear hv
        have hv := hk
        clear hk
        refine y_iconst (v := 1) E dX11_cell_54 (by decide) ?_
        exact y_iret E dX11_cell_55 hv
      · replace hv := ite_t hv c9
        refine y_bipush (v := (-12)) E dX11_cell_40 (by decide) ?_
        exact y_iret E dX11_cell_42 hv
    · replace hv := ite_t hv c5
      refine y_bipush (v := (-11)) E dX11_cell_23 (by decide) ?_
      exact y_iret E dX11_cell_25 hv
  · replace hv := ite_t hv c3
    refine y_bipush (v := (-2)) E dX11_cell_7 (by decide) ?_
    exact y_iret E dX11_cell_9 hv
theorem dX11_copy_0 : decode cX11_copy 0 = .ok (.iload_n 1, 1) := by decide +kernel
theorem dX11_copy_1 : decode cX11_copy 1 = .ok (.invokestatic 265, 3) := by decide +kernel
theorem dX11_copy_4 : decode cX11_copy 4 = .ok (.ifCond .eq 10, 3) := by decide +kernel
theorem dX11_copy_7 : decode cX11_copy 7 = .ok (.iload_n 3, 1) := by decide +kernel
theorem dX11_copy_8 : decode cX11_copy 8 = .ok (.invokestatic 265, 3) := by decide +kernel
theorem dX11_copy_11 : decode cX11_copy 11 = .ok (.ifCond .ne 6, 3) := by decide +kernel
theorem dX11_copy_14 : decode cX11_copy 14 = .ok (.bipush (-2), 2) := by decide +kernel
theorem dX11_copy_16 : decode cX11_copy 16 = .ok (.ireturn, 1) := by decide +kernel
theorem dX11_copy_17 : decode cX11_copy 17 = .ok (.aload_n 0, 1) := by decide +kernel
theorem dX11_copy_18 : decode cX11_copy 18 = .ok (.getfield 40, 3) := by decide +kernel
theorem dX11_copy_21 : decode cX11_copy 21 = .ok (.iload_n 1, 1) := by decide +kernel
theorem dX11_copy_22 : decode cX11_copy 22 = .ok (.aaload, 1) := by decide +kernel
theorem dX11_copy_23 : decode cX11_copy 23 = .ok (.astore 6, 2) := by decide +kernel
theorem dX11_copy_25 : decode cX11_copy 25 = .ok (.aload_n 0, 1) := by decide +kernel
theorem dX11_copy_26 : decode cX11_copy 26 = .ok (.getfield 40, 3) := by decide +kernel
theorem dX11_copy_29 : decode cX11_copy 29 = .ok (.iload_n 3, 1) := by decide +kernel
theorem dX11_copy_30 : decode cX11_copy 30 = .ok (.aaload, 1) := by decide +kernel
theorem dX11_copy_31 : decode cX11_copy 31 = .ok (.astore 7, 2) := by decide +kernel
theorem dX11_copy_33 : decode cX11_copy 33 = .ok (.aload 6, 2) := by decide +kernel
theorem dX11_copy_35 : decode cX11_copy 35 = .ok (.getfield 286, 3) := by decide +kernel
theorem dX11_copy_38 : decode cX11_copy 38 = .ok (.iconst (-1), 1) := by decide +kernel
theorem dX11_copy_39 : decode cX11_copy 39 = .ok (.if_icmp .eq 12, 3) := by decide +kernel
theorem dX11_copy_42 : decode cX11_copy 42 = .ok (.aload 7, 2) := by decide +kernel
theorem dX11_copy_44 : decode cX11_copy 44 = .ok (.getfield 286, 3) := by decide +kernel
theorem dX11_copy_47 : decode cX11_copy 47 = .ok (.iconst (-1), 1) := by decide +kernel
theorem dX11_copy_48 : decode cX11_copy 48 = .ok (.if_icmp .ne 6, 3) := by decide +kernel
theorem dX11_copy_51 : decode cX11_copy 51 = .ok (.bipush (-11), 2) := by decide +kernel
theorem dX11_copy_53 : decode cX11_copy 53 = .ok (.ireturn, 1) := by decide +kernel
theorem dX11_copy_54 : decode cX11_copy 54 = .ok (.aload 6, 2) := by decide +kernel
theorem dX11_copy_56 : decode cX11_copy 56 = .ok (.getfield 286, 3) := by decide +kernel
theorem dX11_copy_59 : decode cX11_copy 59 = .ok (.aload 7, 2) := by decide +kernel
theorem dX11_copy_61 : decode cX11_copy 61 = .ok (.getfield 286, 3) := by decide +kernel
theorem dX11_copy_64 : decode cX11_copy 64 = .ok (.if_icmp .eq 6, 3) := by decide +kernel
theorem dX11_copy_67 : decode cX11_copy 67 = .ok (.bipush (-13), 2) := by decide +kernel
theorem dX11_copy_69 : decode cX11_copy 69 = .ok (.ireturn, 1) := by decide +kernel
theorem dX11_copy_70 : decode cX11_copy 70 = .ok (.aload 6, 2) := by decide +kernel
theorem dX11_copy_72 : decode cX11_copy 72 = .ok (.iload_n 2, 1) := by decide +kernel
theorem dX11_copy_73 : decode cX11_copy 73 = .ok (.iload 5, 2) := by decide +kernel
theorem dX11_copy_75 : decode cX11_copy 75 = .ok (.invokevirtual 289, 3) := by decide +kernel
theorem dX11_copy_78 : decode cX11_copy 78 = .ok (.ifCond .eq 15, 3) := by decide +kernel
theorem dX11_copy_81 : decode cX11_copy 81 = .ok (.aload 7, 2) := by decide +kernel
theorem dX11_copy_83 : decode cX11_copy 83 = .ok (.iload 4, 2) := by decide +kernel
theorem dX11_copy_85 : decode cX11_copy 85 = .ok (.iload 5, 2) := by decide +kernel
theorem dX11_copy_87 : decode cX11_copy 87 = .ok (.invokevirtual 289, 3) := by decide +kernel
theorem dX11_copy_90 : decode cX11_copy 90 = .ok (.ifCond .ne 6, 3) := by decide +kernel
theorem dX11_copy_93 : decode cX11_copy 93 = .ok (.bipush (-12), 2) := by decide +kernel
theorem dX11_copy_95 : decode cX11_copy 95 = .ok (.ireturn, 1) := by decide +kernel
theorem dX11_copy_96 : decode cX11_copy 96 = .ok (.aload 6, 2) := by decide +kernel
theorem dX11_copy_98 : decode cX11_copy 98 = .ok (.getfield 260, 3) := by decide +kernel
theorem dX11_copy_101 : decode cX11_copy 101 = .ok (.iload_n 2, 1) := by decide +kernel
theorem dX11_copy_102 : decode cX11_copy 102 = .ok (.aload 7, 2) := by decide +kernel
theorem dX11_copy_104 : decode cX11_copy 104 = .ok (.getfield 260, 3) := by decide +kernel
theorem dX11_copy_107 : decode cX11_copy 107 = .ok (.iload 4, 2) := by decide +kernel
theorem dX11_copy_109 : decode cX11_copy 109 = .ok (.iload 5, 2) := by decide +kernel
theorem dX11_copy_111 : decode cX11_copy 111 = .ok (.invokestatic 295, 3) := by decide +kernel
theorem dX11_copy_114 : decode cX11_copy 114 = .ok (.iload 5, 2) := by decide +kernel
theorem dX11_copy_116 : decode cX11_copy 116 = .ok (.ireturn, 1) := by decide +kernel
set_option maxRecDepth 100000 in
set_option maxHeartbeats 4000000 in
theorem kX11_copy (l : Launch) (w : wT) (hw : yOk w 55) (σ : Hp) (a1 : Int32) (a2 : Int32) (a3 : Int32) (a4 : Int32) (a5 : Int32) (K : Int32 → Hp → Prop) (hv : VX11_copy K σ a1 a2 a3 a4 a5) : yMet l w xcf 55 yX11_copy cX11_copy 8 (some .int) 2 [.ref (w.1 0), .int a1, .int a2, .int a3, .int a4, .int a5] σ (yQi w xcf 55 K) := by
  unfold VX11_copy at hv
  refine y_start (lv0 := [(0, .ref (w.1 0)), (1, .int a1), (2, .int a2), (3, .int a3), (4, .int a4), (5, .int a5)]) (by decide +kernel) (own := RX11) rfl hw (Nat.le_of_ble_eq_true rfl) rfl (fun p e s m below meth c A E => ?_)
  refine y_iload_n E dX11_copy_0 1 rfl ?_
  refine y_calli E (y_runS E (rest := []) (kX11_isSheet l w E.2.2.1 σ a1 _ hv) (y_cwS 1 E.1.2.2.2.2 wm_409 wm_415 wm_116 wm_416 (by decide +kernel) (yRm_le (by decide) (by decide))) rfl rfl (Nat.le_of_ble_eq_true rfl) dX11_copy_1) (fun v1 u2 hk => ?_)
  clear hv
  have hv := hk
  clear hk
  refine y_if_eq (tgt := 14) E dX11_copy_4 (by decide) (fun c3 => ?_) (fun c3 => ?_)
  · replace hv := ite_t hv c3
    refine y_bipush (v := (-2)) E dX11_copy_14 (by decide) ?_
    exact y_iret E dX11_copy_16 hv
  · replace hv := ite_f hv c3
    refine y_iload_n E dX11_copy_7 3 rfl ?_
    refine y_calli E (y_runS E (rest := []) (kX11_isSheet l w E.2.2.1 u2 a3 _ hv) (y_cwS 1 E.1.2.2.2.2 wm_409 wm_415 wm_116 wm_416 (by decide +kernel) (yRm_le (by decide) (by decide))) rfl rfl (Nat.le_of_ble_eq_true rfl) dX11_copy_8) (fun v4 u5 hk => ?_)
    clear hv
    have hv := hk
    clear hk
    refine y_if_ne (tgt := 17) E dX11_copy_11 (by decide) (fun c6 => ?_) (fun c6 => ?_)
    · replace hv := ite_f hv c6
      refine y_aload_n E dX11_copy_17 0 rfl ?_
      refine gf_X11_7 E (by decide) (by decide) wm_406 dX11_copy_18 ?_
      refine y_iload_n E dX11_copy_21 1 rfl ?_
      obtain ⟨hi, hv⟩ := hv
      refine y_aald (t0 := 2) E (by decide) (xc_rsheets (by decide) (by decide)) rfl hi dX11_copy_22 ?_
      refine y_nmr (fun x7 hx7 => ?_)
      replace hv := hv x7 hx7
      have hgx7 : 41 ≤ x7 ∧ x7 < 45 := by have := vp_in_lt hi; omega
      refine y_astore (lv' := [(6, .ref (w.1 x7)), (0, .ref (w.1 0)), (1, .int a1), (2, .int a2), (3, .int a3), (4, .int a4), (5, .int a5)]) E dX11_copy_23 (by decide) rfl ?_
      refine y_aload_n E dX11_copy_25 1 rfl ?_
      refine gf_X11_7 E (by decide) (by decide) wm_406 dX11_copy_26 ?_
      refine y_iload_n E dX11_copy_29 4 rfl ?_
      obtain ⟨hi, hv⟩ := hv
      refine y_aald (t0 := 2) E (by decide) (xc_rsheets (by decide) (by decide)) rfl hi dX11_copy_30 ?_
      refine y_nmr (fun x8 hx8 => ?_)
      replace hv := hv x8 hx8
      have hgx8 : 41 ≤ x8 ∧ x8 < 45 := by have := vp_in_lt hi; omega
      refine y_astore (lv' := [(7, .ref (w.1 x8)), (6, .ref (w.1 x7)), (0, .ref (w.1 0)), (1, .int a1), (2, .int a2), (3, .int a3), (4, .int a4), (5, .int a5)]) E dX11_copy_31 (by decide) rfl ?_
      refine y_aload E dX11_copy_33 1 rfl ?_
      refine gf_X6_1 E hgx7.1 hgx7.2 wm_434 dX11_copy_35 ?_
      refine y_iconst (v := (-1)) E dX11_copy_38 (by decide) ?_
      refine y_icmp_eq (tgt := 51) E dX11_copy_39 (by decide) (fun c9 => ?_) (fun c9 => ?_)
      · replace hv := ite_t hv c9
        refine y_bipush (v := (-11)) E dX11_copy_51 (by decide) ?_
        exact y_iret E dX11_copy_53 hv
      · replace hv := ite_f hv c9
        refine y_aload E dX11_copy_42 0 rfl ?_
        refine gf_X6_1 E hgx8.1 hgx8.2 wm_434 dX11_copy_44 ?_
        refine y_iconst (v := (-1)) E dX11_copy_47 (by decide) ?_
        refine y_icmp_ne (tgt := 54) E dX11_copy_48 (by decide) (fun c10 => ?_) (fun c10 => ?_)
        · replace hv := ite_f hv c10
          refine y_aload E dX11_copy_54 1 rfl ?_
          refine gf_X6_1 E hgx7.1 hgx7.2 wm_434 dX11_copy_56 ?_
          refine y_aload E dX11_copy_59 0 rfl ?_
          refine gf_X6_1 E hgx8.1 hgx8.2 wm_434 dX11_copy_61 ?_
          refine y_icmp_eq (tgt := 70) E dX11_copy_64 (by decide) (fun c11 => ?_) (fun c11 => ?_)
          · replace hv := ite_t hv c11
            refine y_aload E dX11_copy_70 1 rfl ?_
            refine y_iload_n E dX11_copy_72 4 rfl ?_
            refine y_iload E dX11_copy_73 7 rfl ?_
            refine y_calli E (y_runV E (rest := []) (kX6_holds l w E.2.2.1 u5 x7 a2 a5 _ hv) (y_cwV 2 E.1.2.2.2.2 wm_435 wm_440 wm_441 wm_413 wm_442 (by decide +kernel) (yRm_le (by decide) (by decide))) (Nat.lt_of_lt_of_le hgx7.2 (by decide)) (xc_X6 hgx7.1 hgx7.2) rfl rfl rfl (Nat.le_of_ble_eq_true rfl) dX11_copy_75) (fun v12 u13 hk => ?_)
            clear hv
            have hv := hk
            clear hk
            refine y_if_eq (tgt := 93) E dX11_copy_78 (by decide) (fun c14 => ?_) (fun c14 => ?_)
            · replace hv := ite_t hv c14
              refine y_bipush (v := (-12)) E dX11_copy_93 (by decide) ?_
              exact y_iret E dX11_copy_95 hv
            · replace hv := ite_f hv c14
              refine y_aload E dX11_copy_81 0 rfl ?_
              refine y_iload E dX11_copy_83 6 rfl ?_
              refine y_iload E dX11_copy_85 7 rfl ?_
              refine y_calli E (y_runV E (rest := []) (kX6_holds l w E.2.2.1 u13 x8 a4 a5 _ hv) (y_cwV 2 E.1.2.2.2.2 wm_435 wm_440 wm_441 wm_413 wm_442 (by decide +kernel) (yRm_le (by decide) (by decide))) (Nat.lt_of_lt_of_le hgx8.2 (by decide)) (xc_X6 hgx8.1 hgx8.2) rfl rfl rfl (Nat.le_of_ble_eq_true rfl) dX11_copy_87) (fun v15 u16 hk => ?_)
              clear hv
              have hv := hk
              clear hk
              refine y_if_ne (tgt := 96) E dX11_copy_90 (by decide) (fun c17 => ?_) (fun c17 => ?_)
              · replace hv := ite_f hv c17
                refine y_aload E dX11_copy_96 1 rfl ?_
                obtain ⟨x18, hx18⟩ : ∃ z : Nat, z = 45 + 1 * (x7 - 41) := ⟨_, rfl⟩
                replace hv := hv x18 hx18
                have hgx18 : 45 ≤ x18 ∧ x18 < 49 := by omega
                refine gf_X6_0 (q := x18) E hgx7.1 hgx7.2 hx18.symm wm_407 dX11_copy_98 ?_
                refine y_iload_n E dX11_copy_101 4 rfl ?_
                refine y_aload E dX11_copy_102 0 rfl ?_
                obtain ⟨x19, hx19⟩ : ∃ z : Nat, z = 45 + 1 * (x8 - 41) := ⟨_, rfl⟩
                replace hv := hv x19 hx19
                have hgx19 : 45 ≤ x19 ∧ x19 < 49 := by omega
                refine gf_X6_0 (q := x19) E hgx8.1 hgx8.2 hx19.symm wm_407 dX11_copy_104 ?_
                refine y_iload E dX11_copy_107 6 rfl ?_
                refine y_iload E dX11_copy_109 7 rfl ?_
                obtain ⟨h1, h2, h3, h4, h5, hv⟩ := hv
                refine y_copyi E (Nat.lt_of_lt_of_le hgx18.2 (by decide)) (Nat.lt_of_lt_of_le hgx19.2 (by decide)) (xc_numbers hgx18.1 hgx18.2) (fun _ => xc_numbers hgx19.1 hgx19.2) wm_443 wm_143 wm_144 wm_145 h1 h2 h3 h4 h5 (by decide) (Nat.le_of_ble_eq_true rfl) dX11_copy_111 ?_
                refine y_nmH (fun u20 hu20 => ?_)
                replace hv := hv u20 hu20
                refine y_iload E dX11_copy_114 7 rfl ?_
                exact y_iret E dX11_copy_116 hv
              · replace hv := ite_t hv c17
                refine y_bipush (v := (-12)) E dX11_copy_93 (by decide) ?_
                exact y_iret E dX11_copy_95 hv
          · replace hv := ite_f hv c11
            refine y_bipush (v := (-13)) E dX11_copy_67 (by decide) ?_
            exact y_iret E dX11_copy_69 hv
        · replace hv := ite_t hv c10
          refine y_bipush (v := (-11)) E dX11_copy_51 (by decide) ?_
          exact y_iret E dX11_copy_53 hv
    · replace hv := ite_t hv c6
      refine y_bipush (v := (-2)) E dX11_copy_14 (by decide) ?_
      exact y_iret E dX11_copy_16 hv
theorem dX11_thingsBy_0 : decode cX11_thingsBy 0 = .ok (.iload_n 1, 1) := by decide +kernel
theorem dX11_thingsBy_1 : decode cX11_thingsBy 1 = .ok (.invokestatic 265, 3) := by decide +kernel
theorem dX11_thingsBy_4 : decode cX11_thingsBy 4 = .ok (.ifCond .eq 23, 3) := by decide +kernel
theorem dX11_thingsBy_7 : decode cX11_thingsBy 7 = .ok (.iload_n 2, 1) := by decide +kernel
theorem dX11_thingsBy_8 : decode cX11_thingsBy 8 = .ok (.ifCond .lt 19, 3) := by decide +kernel
theorem dX11_thingsBy_11 : decode cX11_thingsBy 11 = .ok (.iload_n 2, 1) := by decide +kernel
theorem dX11_thingsBy_12 : decode cX11_thingsBy 12 = .ok (.iconst 2, 1) := by decide +kernel
theorem dX11_thingsBy_13 : decode cX11_thingsBy 13 = .ok (.if_icmp .gt 14, 3) := by decide +kernel
theorem dX11_thingsBy_16 : decode cX11_thingsBy 16 = .ok (.iload 4, 2) := by decide +kernel
theorem dX11_thingsBy_18 : decode cX11_thingsBy 18 = .ok (.ifCond .lt 9, 3) := by decide +kernel
theorem dX11_thingsBy_21 : decode cX11_thingsBy 21 = .ok (.iload 4, 2) := by decide +kernel
theorem dX11_thingsBy_23 : decode cX11_thingsBy 23 = .ok (.iconst 5, 1) := by decide +kernel
theorem dX11_thingsBy_24 : decode cX11_thingsBy 24 = .ok (.if_icmp .le 6, 3) := by decide +kernel
theorem dX11_thingsBy_27 : decode cX11_thingsBy 27 = .ok (.bipush (-2), 2) := by decide +kernel
theorem dX11_thingsBy_29 : decode cX11_thingsBy 29 = .ok (.ireturn, 1) := by decide +kernel
theorem dX11_thingsBy_30 : decode cX11_thingsBy 30 = .ok (.aload_n 0, 1) := by decide +kernel
theorem dX11_thingsBy_31 : decode cX11_thingsBy 31 = .ok (.getfield 40, 3) := by decide +kernel
theorem dX11_thingsBy_34 : decode cX11_thingsBy 34 = .ok (.iload_n 1, 1) := by decide +kernel
theorem dX11_thingsBy_35 : decode cX11_thingsBy 35 = .ok (.aaload, 1) := by decide +kernel
theorem dX11_thingsBy_36 : decode cX11_thingsBy 36 = .ok (.astore 5, 2) := by decide +kernel
theorem dX11_thingsBy_38 : decode cX11_thingsBy 38 = .ok (.aload 5, 2) := by decide +kernel
theorem dX11_thingsBy_40 : decode cX11_thingsBy 40 = .ok (.getfield 286, 3) := by decide +kernel
theorem dX11_thingsBy_43 : decode cX11_thingsBy 43 = .ok (.iconst (-1), 1) := by decide +kernel
theorem dX11_thingsBy_44 : decode cX11_thingsBy 44 = .ok (.if_icmp .ne 6, 3) := by decide +kernel
theorem dX11_thingsBy_47 : decode cX11_thingsBy 47 = .ok (.bipush (-11), 2) := by decide +kernel
theorem dX11_thingsBy_49 : decode cX11_thingsBy 49 = .ok (.ireturn, 1) := by decide +kernel
theorem dX11_thingsBy_50 : decode cX11_thingsBy 50 = .ok (.aload 5, 2) := by decide +kernel
theorem dX11_thingsBy_52 : decode cX11_thingsBy 52 = .ok (.getfield 286, 3) := by decide +kernel
theorem dX11_thingsBy_55 : decode cX11_thingsBy 55 = .ok (.iload_n 2, 1) := by decide +kernel
theorem dX11_thingsBy_56 : decode cX11_thingsBy 56 = .ok (.if_icmp .eq 6, 3) := by decide +kernel
theorem dX11_thingsBy_59 : decode cX11_thingsBy 59 = .ok (.bipush (-13), 2) := by decide +kernel
theorem dX11_thingsBy_61 : decode cX11_thingsBy 61 = .ok (.ireturn, 1) := by decide +kernel
theorem dX11_thingsBy_62 : decode cX11_thingsBy 62 = .ok (.iconst 0, 1) := by decide +kernel
theorem dX11_thingsBy_63 : decode cX11_thingsBy 63 = .ok (.istore 6, 2) := by decide +kernel
theorem dX11_thingsBy_65 : decode cX11_thingsBy 65 = .ok (.iconst 0, 1) := by decide +kernel
theorem dX11_thingsBy_66 : decode cX11_thingsBy 66 = .ok (.istore 7, 2) := by decide +kernel
theorem dX11_thingsBy_68 : decode cX11_thingsBy 68 = .ok (.iload 7, 2) := by decide +kernel
theorem dX11_thingsBy_70 : decode cX11_thingsBy 70 = .ok (.iload 4, 2) := by decide +kernel
theorem dX11_thingsBy_72 : decode cX11_thingsBy 72 = .ok (.if_icmp .ge 80, 3) := by decide +kernel
theorem dX11_thingsBy_75 : decode cX11_thingsBy 75 = .ok (.iload_n 3, 1) := by decide +kernel
theorem dX11_thingsBy_76 : decode cX11_thingsBy 76 = .ok (.iconst 3, 1) := by decide +kernel
theorem dX11_thingsBy_77 : decode cX11_thingsBy 77 = .ok (.iload 7, 2) := by decide +kernel
theorem dX11_thingsBy_79 : decode cX11_thingsBy 79 = .ok (.imul, 1) := by decide +kernel
theorem dX11_thingsBy_80 : decode cX11_thingsBy 80 = .ok (.iadd, 1) := by decide +kernel
theorem dX11_thingsBy_81 : decode cX11_thingsBy 81 = .ok (.istore 8, 2) := by decide +kernel
theorem dX11_thingsBy_83 : decode cX11_thingsBy 83 = .ok (.aload 5, 2) := by decide +kernel
theorem dX11_thingsBy_85 : decode cX11_thingsBy 85 = .ok (.iload 8, 2) := by decide +kernel
theorem dX11_thingsBy_87 : decode cX11_thingsBy 87 = .ok (.iconst 3, 1) := by decide +kernel
theorem dX11_thingsBy_88 : decode cX11_thingsBy 88 = .ok (.invokevirtual 289, 3) := by decide +kernel
theorem dX11_thingsBy_91 : decode cX11_thingsBy 91 = .ok (.ifCond .ne 6, 3) := by decide +kernel
theorem dX11_thingsBy_94 : decode cX11_thingsBy 94 = .ok (.bipush (-12), 2) := by decide +kernel
theorem dX11_thingsBy_96 : decode cX11_thingsBy 96 = .ok (.ireturn, 1) := by decide +kernel
theorem dX11_thingsBy_97 : decode cX11_thingsBy 97 = .ok (.aload_n 0, 1) := by decide +kernel
theorem dX11_thingsBy_98 : decode cX11_thingsBy 98 = .ok (.aload 5, 2) := by decide +kernel
theorem dX11_thingsBy_100 : decode cX11_thingsBy 100 = .ok (.getfield 260, 3) := by decide +kernel
theorem dX11_thingsBy_103 : decode cX11_thingsBy 103 = .ok (.iload 8, 2) := by decide +kernel
theorem dX11_thingsBy_105 : decode cX11_thingsBy 105 = .ok (.iaload, 1) := by decide +kernel
theorem dX11_thingsBy_106 : decode cX11_thingsBy 106 = .ok (.aload 5, 2) := by decide +kernel
theorem dX11_thingsBy_108 : decode cX11_thingsBy 108 = .ok (.getfield 260, 3) := by decide +kernel
theorem dX11_thingsBy_111 : decode cX11_thingsBy 111 = .ok (.iload 8, 2) := by decide +kernel
theorem dX11_thingsBy_113 : decode cX11_thingsBy 113 = .ok (.iconst 1, 1) := by decide +kernel
theorem dX11_thingsBy_114 : decode cX11_thingsBy 114 = .ok (.iadd, 1) := by decide +kernel
theorem dX11_thingsBy_115 : decode cX11_thingsBy 115 = .ok (.iaload, 1) := by decide +kernel
theorem dX11_thingsBy_116 : decode cX11_thingsBy 116 = .ok (.aload 5, 2) := by decide +kernel
theorem dX11_thingsBy_118 : decode cX11_thingsBy 118 = .ok (.getfield 260, 3) := by decide +kernel
theorem dX11_thingsBy_121 : decode cX11_thingsBy 121 = .ok (.iload 8, 2) := by decide +kernel
theorem dX11_thingsBy_123 : decode cX11_thingsBy 123 = .ok (.iconst 2, 1) := by decide +kernel
theorem dX11_thingsBy_124 : decode cX11_thingsBy 124 = .ok (.iadd, 1) := by decide +kernel
theorem dX11_thingsBy_125 : decode cX11_thingsBy 125 = .ok (.iaload, 1) := by decide +kernel
theorem dX11_thingsBy_126 : decode cX11_thingsBy 126 = .ok (.invokevirtual 301, 3) := by decide +kernel
theorem dX11_thingsBy_129 : decode cX11_thingsBy 129 = .ok (.istore 9, 2) := by decide +kernel
theorem dX11_thingsBy_131 : decode cX11_thingsBy 131 = .ok (.iload 6, 2) := by decide +kernel
theorem dX11_thingsBy_133 : decode cX11_thingsBy 133 = .ok (.iload 9, 2) := by decide +kernel
theorem dX11_thingsBy_135 : decode cX11_thingsBy 135 = .ok (.ifCond .lt 7, 3) := by decide +kernel
theorem dX11_thingsBy_138 : decode cX11_thingsBy 138 = .ok (.iconst 1, 1) := by decide +kernel
theorem dX11_thingsBy_139 : decode cX11_thingsBy 139 = .ok (.goto 4, 3) := by decide +kernel
theorem dX11_thingsBy_142 : decode cX11_thingsBy 142 = .ok (.iconst 0, 1) := by decide +kernel
theorem dX11_thingsBy_143 : decode cX11_thingsBy 143 = .ok (.iadd, 1) := by decide +kernel
theorem dX11_thingsBy_144 : decode cX11_thingsBy 144 = .ok (.istore 6, 2) := by decide +kernel
theorem dX11_thingsBy_146 : decode cX11_thingsBy 146 = .ok (.iinc 7 1, 3) := by decide +kernel
theorem dX11_thingsBy_149 : decode cX11_thingsBy 149 = .ok (.goto (-81), 3) := by decide +kernel
theorem dX11_thingsBy_152 : decode cX11_thingsBy 152 = .ok (.iload 6, 2) := by decide +kernel
theorem dX11_thingsBy_154 : decode cX11_thingsBy 154 = .ok (.ireturn, 1) := by decide +kernel
set_option maxRecDepth 100000 in
set_option maxHeartbeats 4000000 in
theorem kX11_thingsBy (l : Launch) (w : wT) (hw : yOk w 55) (σ : Hp) (a1 : Int32) (a2 : Int32) (a3 : Int32) (a4 : Int32) (K : Int32 → Hp → Prop) (hv : VX11_thingsBy K σ a1 a2 a3 a4) : yMet l w xcf 55 yX11_thingsBy cX11_thingsBy 10 (some .int) 4 [.ref (w.1 0), .int a1, .int a2, .int a3, .int a4] σ (yQi w xcf 55 K) := by
  unfold VX11_thingsBy at hv
  refine y_start (lv0 := [(0, .ref (w.1 0)), (1, .int a1), (2, .int a2), (3, .int a3), (4, .int a4)]) (by decide +kernel) (own := RX11) rfl hw (Nat.le_of_ble_eq_true rfl) rfl (fun p e s m below meth c A E => ?_)
  have hL68 : ∀ (n68 : Nat) (σ : Hp) (l3 : Int32) (l4 : Int32) (l5 : Nat) (l6 : Int32) (l7 : Int32), VX11_thingsBy_L68 K n68 σ l3 l4 l5 l6 l7 → YY p l e (yRm 4) s m [.ref (w.1 0), .int a1, .int a2, .int a3, .int a4].toArray below meth c w xcf 55 A (MQ below (yQi w xcf 55 K A) [.ref (w.1 0), .int a1, .int a2, .int a3, .int a4].toArray s 0 0 A) 10 σ 68 [(0, .ref (w.1 0)), (3, .int l3), (4, .int l4), (5, .ref (w.1 l5)), (6, .int l6), (7, .int l7)] [] := by
    intro n68
    induction n68 with
    | zero => exact fun _ _ _ _ _ _ hv => (by unfold VX11_thingsBy_L68 at hv; exact hv.elim)
    | succ n68 ih68 =>
      intro σ l3 l4 l5 l6 l7 hv
      unfold VX11_thingsBy_L68 at hv
      obtain ⟨hbl5, hv⟩ := hv
      refine y_iload E dX11_thingsBy_68 5 rfl ?_
      refine y_iload E dX11_thingsBy_70 2 rfl ?_
      refine y_icmp_ge (tgt := 152) E dX11_thingsBy_72 (by decide) (fun c11 => ?_) (fun c11 => ?_)
      · replace hv := ite_t hv c11
        refine y_iload E dX11_thingsBy_152 4 rfl ?_
        exact y_iret E dX11_thingsBy_154 hv
      · replace hv := ite_f hv c11
        refine y_iload_n E dX11_thingsBy_75 1 rfl ?_
        refine y_iconst (v := 3) E dX11_thingsBy_76 (by decide) ?_
        refine y_iload E dX11_thingsBy_77 5 rfl ?_
        refine y_imul E dX11_thingsBy_79 ?_
        refine y_iadd E dX11_thingsBy_80 ?_
        refine y_nmi (fun x12 hx12 => ?_)
        replace hv := hv x12 hx12
        refine y_istore (lv' := [(8, .int x12), (0, .ref (w.1 0)), (3, .int l3), (4, .int l4), (5, .ref (w.1 l5)), (6, .int l6), (7, .int l7)]) E dX11_thingsBy_81 (by decide) rfl ?_
        refine y_aload E dX11_thingsBy_83 4 rfl ?_
        refine y_iload E dX11_thingsBy_85 0 rfl ?_
        refine y_iconst (v := 3) E dX11_thingsBy_87 (by decide) ?_
        refine y_calli E (y_runV E (rest := []) (kX6_holds l w E.2.2.1 σ l5 x12 3 _ hv) (y_cwV 2 E.1.2.2.2.2 wm_435 wm_440 wm_441 wm_413 wm_442 (by decide +kernel) (yRm_le (by decide) (by decide))) (Nat.lt_of_lt_of_le hbl5.2 (by decide)) (xc_X6 hbl5.1 hbl5.2) rfl rfl rfl (Nat.le_of_ble_eq_true rfl) dX11_thingsBy_88) (fun v13 u14 hk => ?_)
        clear hv
        have hv := hk
        clear hk
        refine y_if_ne (tgt := 97) E dX11_thingsBy_91 (by decide) (fun c15 => ?_) (fun c15 => ?_)
        · replace hv := ite_f hv c15
          refine y_aload_n E dX11_thingsBy_97 1 rfl ?_
          refine y_aload E dX11_thingsBy_98 4 rfl ?_
          obtain ⟨x16, hx16⟩ : ∃ z : Nat, z = 45 + 1 * (l5 - 41) := ⟨_, rfl⟩
          replace hv := hv x16 hx16
          have hgx16 : 45 ≤ x16 ∧ x16 < 49 := by omega
          refine gf_X6_0 (q := x16) E hbl5.1 hbl5.2 hx16.symm wm_407 dX11_thingsBy_100 ?_
          refine y_iload E dX11_thingsBy_103 0 rfl ?_
          obtain ⟨hi, hv⟩ := hv
          refine y_iald E (Nat.lt_of_lt_of_le hgx16.2 (by decide)) (xc_numbers hgx16.1 hgx16.2) hi dX11_thingsBy_105 ?_
          refine y_aload E dX11_thingsBy_106 4 rfl ?_
          obtain ⟨x17, hx17⟩ : ∃ z : Nat, z = 45 + 1 * (l5 - 41) := ⟨_, rfl⟩
          replace hv := hv x17 hx17
          have hgx17 : 45 ≤ x17 ∧ x17 < 49 := by omega
          refine gf_X6_0 (q := x17) E hbl5.1 hbl5.2 hx17.symm wm_407 dX11_thingsBy_108 ?_
          refine y_iload E dX11_thingsBy_111 0 rfl ?_
          refine y_iconst (v := 1) E dX11_thingsBy_113 (by decide) ?_
          refine y_iadd E dX11_thingsBy_114 ?_
          obtain ⟨hi, hv⟩ := hv
          refine y_iald E (Nat.lt_of_lt_of_le hgx17.2 (by decide)) (xc_numbers hgx17.1 hgx17.2) hi dX11_thingsBy_115 ?_
          refine y_aload E dX11_thingsBy_116 4 rfl ?_
          obtain ⟨x18, hx18⟩ : ∃ z : Nat, z = 45 + 1 * (l5 - 41) := ⟨_, rfl⟩
          replace hv := hv x18 hx18
          have hgx18 : 45 ≤ x18 ∧ x18 < 49 := by omega
          refine gf_X6_0 (q := x18) E hbl5.1 hbl5.2 hx18.symm wm_407 dX11_thingsBy_118 ?_
          refine y_iload E dX11_thingsBy_121 0 rfl ?_
          refine y_iconst (v := 2) E dX11_thingsBy_123 (by decide) ?_
          refine y_iadd E dX11_thingsBy_124 ?_
          obtain ⟨hi, hv⟩ := hv
          refine y_iald E (Nat.lt_of_lt_of_le hgx18.2 (by decide)) (xc_numbers hgx18.1 hgx18.2) hi dX11_thingsBy_125 ?_
          refine y_calli E (y_runV E (rest := []) (kX11_thing l w E.2.2.1 u14 (u14 x16 x12.toNatClampNeg) (u14 x17 (x12 + 1).toNatClampNeg) (u14 x18 (x12 + 2).toNatClampNeg) _ hv) (y_cwV 3 E.1.2.2.2.2 wm_444 wm_445 wm_446 wm_116 wm_447 (by decide +kernel) (yRm_le (by decide) (by decide))) (Nat.lt_of_lt_of_le (show 0 < 1 by decide) (by decide)) (xc_X11 (by decide) (by decide)) rfl rfl rfl (Nat.le_of_ble_eq_true rfl) dX11_thingsBy_126) (fun v19 u20 hk => ?_)
          clear hv
          have hv := hk
          clear hk
          refine y_istore (lv' := [(9, .int v19), (8, .int x12), (0, .ref (w.1 0)), (3, .int l3), (4, .int l4), (5, .ref (w.1 l5)), (6, .int l6), (7, .int l7)]) E dX11_thingsBy_129 (by decide) rfl ?_
          refine y_iload E dX11_thingsBy_131 6 rfl ?_
          refine y_iload E dX11_thingsBy_133 0 rfl ?_
          refine y_if_lt (tgt := 142) E dX11_thingsBy_135 (by decide) (fun c21 => ?_) (fun c21 => ?_)
          · replace hv := ite_t hv c21
            refine y_iconst (v := 0) E dX11_thingsBy_142 (by decide) ?_
            refine y_iadd E dX11_thingsBy_143 ?_
            refine y_nmi (fun x22 hx22 => ?_)
            replace hv := hv x22 hx22
            refine y_istore (lv' := [(6, .int x22), (9, .int v19), (8, .int x12), (0, .ref (w.1 0)), (3, .int l3), (4, .int l4), (5, .ref (w.1 l5)), (7, .int l7)]) E dX11_thingsBy_144 (by decide) rfl ?_
            obtain ⟨x23, hx23⟩ : ∃ z : Int32, z = l7 + 1 := ⟨_, rfl⟩
            replace hv := hv x23 hx23
            refine y_iinc (v := x23) (lv' := [(7, .int x23), (6, .int x22), (9, .int v19), (8, .int x12), (0, .ref (w.1 0)), (3, .int l3), (4, .int l4), (5, .ref (w.1 l5))]) E dX11_thingsBy_146 7 rfl (by rw [hx23]; rfl) (by decide) rfl ?_
            refine y_goto (tgt := 68) E dX11_thingsBy_149 (by decide) ?_
            refine y_lv (lv' := [(0, .ref (w.1 0)), (3, .int l3), (4, .int l4), (5, .ref (w.1 l5)), (6, .int x22), (7, .int x23)]) [4, 5, 6, 7, 1, 0] rfl ?_
            exact ih68 u20 l3 l4 l5 x22 x23 hv
          · replace hv := ite_f hv c21
            refine y_iconst (v := 1) E dX11_thingsBy_138 (by decide) ?_
            refine y_goto (tgt := 143) E dX11_thingsBy_139 (by decide) ?_
            refine y_iadd E dX11_thingsBy_143 ?_
            refine y_nmi (fun x24 hx24 => ?_)
            replace hv := hv x24 hx24
            refine y_istore (lv' := [(6, .int x24), (9, .int v19), (8, .int x12), (0, .ref (w.1 0)), (3, .int l3), (4, .int l4), (5, .ref (w.1 l5)), (7, .int l7)]) E dX11_thingsBy_144 (by decide) rfl ?_
            obtain ⟨x25, hx25⟩ : ∃ z : Int32, z = l7 + 1 := ⟨_, rfl⟩
            replace hv := hv x25 hx25
            refine y_iinc (v := x25) (lv' := [(7, .int x25), (6, .int x24), (9, .int v19), (8, .int x12), (0, .ref (w.1 0)), (3, .int l3), (4, .int l4), (5, .ref (w.1 l5))]) E dX11_thingsBy_146 7 rfl (by rw [hx25]; rfl) (by decide) rfl ?_
            refine y_goto (tgt := 68) E dX11_thingsBy_149 (by decide) ?_
            refine y_lv (lv' := [(0, .ref (w.1 0)), (3, .int l3), (4, .int l4), (5, .ref (w.1 l5)), (6, .int x24), (7, .int x25)]) [4, 5, 6, 7, 1, 0] rfl ?_
            exact ih68 u20 l3 l4 l5 x24 x25 hv
        · replace hv := ite_t hv c15
          refine y_bipush (v := (-12)) E dX11_thingsBy_94 (by decide) ?_
          exact y_iret E dX11_thingsBy_96 hv
  refine y_iload_n E dX11_thingsBy_0 1 rfl ?_
  refine y_calli E (y_runS E (rest := []) (kX11_isSheet l w E.2.2.1 σ a1 _ hv) (y_cwS 1 E.1.2.2.2.2 wm_409 wm_415 wm_116 wm_416 (by decide +kernel) (yRm_le (by decide) (by decide))) rfl rfl (Nat.le_of_ble_eq_true rfl) dX11_thingsBy_1) (fun v1 u2 hk => ?_)
  clear hv
  have hv := hk
  clear hk
  refine y_if_eq (tgt := 27) E dX11_thingsBy_4 (by decide) (fun c3 => ?_) (fun c3 => ?_)
  · replace hv := ite_t hv c3
    refine y_bipush (v := (-2)) E dX11_thingsBy_27 (by decide) ?_
    exact y_iret E dX11_thingsBy_29 hv
  · replace hv := ite_f hv c3
    refine y_iload_n E dX11_thingsBy_7 2 rfl ?_
    refine y_if_lt (tgt := 27) E dX11_thingsBy_8 (by decide) (fun c4 => ?_) (fun c4 => ?_)
    · replace hv := ite_t hv c4
      refine y_bipush (v := (-2)) E dX11_thingsBy_27 (by decide) ?_
      exact y_iret E dX11_thingsBy_29 hv
    · replace hv := ite_f hv c4
      refine y_iload_n E dX11_thingsBy_11 2 rfl ?_
      refine y_iconst (v := 2) E dX11_thingsBy_12 (by decide) ?_
      refine y_icmp_gt (tgt := 27) E dX11_thingsBy_13 (by decide) (fun c5 => ?_) (fun c5 => ?_)
      · replace hv := ite_t hv c5
        refine y_bipush (v := (-2)) E dX11_thingsBy_27 (by decide) ?_
        exact y_iret E dX11_thingsBy_29 hv
      · replace hv := ite_f hv c5
        refine y_iload E dX11_thingsBy_16 4 rfl ?_
        refine y_if_lt (tgt := 27) E dX11_thingsBy_18 (by decide) (fun c6 => ?_) (fun c6 => ?_)
        · replace hv := ite_t hv c6
          refine y_bipush (v := (-2)) E dX11_thingsBy_27 (by decide) ?_
          exact y_iret E dX11_thingsBy_29 hv
        · replace hv := ite_f hv c6
          refine y_iload E dX11_thingsBy_21 4 rfl ?_
          refine y_iconst (v := 5) E dX11_thingsBy_23 (by decide) ?_
          refine y_icmp_le (tgt := 30) E dX11_thingsBy_24 (by decide) (fun c7 => ?_) (fun c7 => ?_)
          · replace hv := ite_t hv c7
            refine y_aload_n E dX11_thingsBy_30 0 rfl ?_
            refine gf_X11_7 E (by decide) (by decide) wm_406 dX11_thingsBy_31 ?_
            refine y_iload_n E dX11_thingsBy_34 1 rfl ?_
            obtain ⟨hi, hv⟩ := hv
            refine y_aald (t0 := 2) E (by decide) (xc_rsheets (by decide) (by decide)) rfl hi dX11_thingsBy_35 ?_
            refine y_nmr (fun x8 hx8 => ?_)
            replace hv := hv x8 hx8
            have hgx8 : 41 ≤ x8 ∧ x8 < 45 := by have := vp_in_lt hi; omega
            refine y_astore (lv' := [(5, .ref (w.1 x8)), (0, .ref (w.1 0)), (1, .int a1), (2, .int a2), (3, .int a3), (4, .int a4)]) E dX11_thingsBy_36 (by decide) rfl ?_
            refine y_aload E dX11_thingsBy_38 0 rfl ?_
            refine gf_X6_1 E hgx8.1 hgx8.2 wm_434 dX11_thingsBy_40 ?_
            refine y_iconst (v := (-1)) E dX11_thingsBy_43 (by decide) ?_
            refine y_icmp_ne (tgt := 50) E dX11_thingsBy_44 (by decide) (fun c9 => ?_) (fun c9 => ?_)
            · replace hv := ite_f hv c9
              refine y_aload E dX11_thingsBy_50 0 rfl ?_
              refine gf_X6_1 E hgx8.1 hgx8.2 wm_434 dX11_thingsBy_52 ?_
              refine y_iload_n E dX11_thingsBy_55 3 rfl ?_
              refine y_icmp_eq (tgt := 62) E dX11_thingsBy_56 (by decide) (fun c10 => ?_) (fun c10 => ?_)
              · replace hv := ite_t hv c10
                refine y_iconst (v := 0) E dX11_thingsBy_62 (by decide) ?_
                refine y_istore (lv' := [(6, .int 0), (5, .ref (w.1 x8)), (0, .ref (w.1 0)), (1, .int a1), (2, .int a2), (3, .int a3), (4, .int a4)]) E dX11_thingsBy_63 (by decide) rfl ?_
                refine y_iconst (v := 0) E dX11_thingsBy_65 (by decide) ?_
                refine y_istore (lv' := [(7, .int 0), (6, .int 0), (5, .ref (w.1 x8)), (0, .ref (w.1 0)), (1, .int a1), (2, .int a2), (3, .int a3), (4, .int a4)]) E dX11_thingsBy_66 (by decide) rfl ?_
                refine y_lv (lv' := [(0, .ref (w.1 0)), (3, .int a3), (4, .int a4), (5, .ref (w.1 x8)), (6, .int 0), (7, .int 0)]) [3, 6, 7, 2, 1, 0] rfl ?_
                obtain ⟨n0, hv⟩ := hv
                exact hL68 n0 u2 a3 a4 x8 0 0 hv
              · replace hv := ite_f hv c10
                refine y_bipush (v := (-13)) E dX11_thingsBy_59 (by decide) ?_
                exact y_iret E dX11_thingsBy_61 hv
            · replace hv := ite_t hv c9
              refine y_bipush (v := (-11)) E dX11_thingsBy_47 (by decide) ?_
              exact y_iret E dX11_thingsBy_49 hv
          · replace hv := ite_f hv c7
            refine y_bipush (v := (-2)) E dX11_thingsBy_27 (by decide) ?_
            exact y_iret E dX11_thingsBy_29 hv
theorem dX11_takenCell_0 : decode cX11_takenCell 0 = .ok (.aload_n 0, 1) := by decide +kernel
theorem dX11_takenCell_1 : decode cX11_takenCell 1 = .ok (.getfield 12, 3) := by decide +kernel
theorem dX11_takenCell_4 : decode cX11_takenCell 4 = .ok (.getfield 128, 3) := by decide +kernel
theorem dX11_takenCell_7 : decode cX11_takenCell 7 = .ok (.aload_n 0, 1) := by decide +kernel
theorem dX11_takenCell_8 : decode cX11_takenCell 8 = .ok (.getfield 12, 3) := by decide +kernel
theorem dX11_takenCell_11 : decode cX11_takenCell 11 = .ok (.getfield 131, 3) := by decide +kernel
theorem dX11_takenCell_14 : decode cX11_takenCell 14 = .ok (.ior, 1) := by decide +kernel
theorem dX11_takenCell_15 : decode cX11_takenCell 15 = .ok (.iload_n 1, 1) := by decide +kernel
theorem dX11_takenCell_16 : decode cX11_takenCell 16 = .ok (.invokestatic 108, 3) := by decide +kernel
theorem dX11_takenCell_19 : decode cX11_takenCell 19 = .ok (.ifCond .ne 6, 3) := by decide +kernel
theorem dX11_takenCell_22 : decode cX11_takenCell 22 = .ok (.bipush (-11), 2) := by decide +kernel
theorem dX11_takenCell_24 : decode cX11_takenCell 24 = .ok (.ireturn, 1) := by decide +kernel
theorem dX11_takenCell_25 : decode cX11_takenCell 25 = .ok (.iload_n 2, 1) := by decide +kernel
theorem dX11_takenCell_26 : decode cX11_takenCell 26 = .ok (.bipush 6, 2) := by decide +kernel
theorem dX11_takenCell_28 : decode cX11_takenCell 28 = .ok (.if_icmp .eq 6, 3) := by decide +kernel
theorem dX11_takenCell_31 : decode cX11_takenCell 31 = .ok (.bipush (-13), 2) := by decide +kernel
theorem dX11_takenCell_33 : decode cX11_takenCell 33 = .ok (.ireturn, 1) := by decide +kernel
theorem dX11_takenCell_34 : decode cX11_takenCell 34 = .ok (.aload_n 0, 1) := by decide +kernel
theorem dX11_takenCell_35 : decode cX11_takenCell 35 = .ok (.getfield 12, 3) := by decide +kernel
theorem dX11_takenCell_38 : decode cX11_takenCell 38 = .ok (.getfield 128, 3) := by decide +kernel
theorem dX11_takenCell_41 : decode cX11_takenCell 41 = .ok (.iload_n 1, 1) := by decide +kernel
theorem dX11_takenCell_42 : decode cX11_takenCell 42 = .ok (.invokestatic 108, 3) := by decide +kernel
theorem dX11_takenCell_45 : decode cX11_takenCell 45 = .ok (.ifCond .eq 7, 3) := by decide +kernel
theorem dX11_takenCell_48 : decode cX11_takenCell 48 = .ok (.iconst 1, 1) := by decide +kernel
theorem dX11_takenCell_49 : decode cX11_takenCell 49 = .ok (.goto 4, 3) := by decide +kernel
theorem dX11_takenCell_52 : decode cX11_takenCell 52 = .ok (.iconst 0, 1) := by decide +kernel
theorem dX11_takenCell_53 : decode cX11_takenCell 53 = .ok (.ireturn, 1) := by decide +kernel
set_option maxRecDepth 100000 in
set_option maxHeartbeats 4000000 in
theorem kX11_takenCell (l : Launch) (w : wT) (hw : yOk w 55) (σ : Hp) (a1 : Int32) (a2 : Int32) (K : Int32 → Hp → Prop) (hv : VX11_takenCell K σ a1 a2) : yMet l w xcf 55 yX11_takenCell cX11_takenCell 3 (some .int) 2 [.ref (w.1 0), .int a1, .int a2] σ (yQi w xcf 55 K) := by
  unfold VX11_takenCell at hv
  refine y_start (lv0 := [(0, .ref (w.1 0)), (1, .int a1), (2, .int a2)]) (by decide +kernel) (own := RX11) rfl hw (Nat.le_of_ble_eq_true rfl) rfl (fun p e s m below meth c A E => ?_)
  refine y_aload_n E dX11_takenCell_0 0 rfl ?_
  refine gf_X11_0 E (by decide) (by decide) wm_272 dX11_takenCell_1 ?_
  refine gf_X3_1 E (by decide) (by decide) wm_288 dX11_takenCell_4 ?_
  refine y_aload_n E dX11_takenCell_7 0 rfl ?_
  refine gf_X11_0 E (by decide) (by decide) wm_272 dX11_takenCell_8 ?_
  refine gf_X3_2 E (by decide) (by decide) wm_289 dX11_takenCell_11 ?_
  refine y_ior E dX11_takenCell_14 ?_
  refine y_iload_n E dX11_takenCell_15 1 rfl ?_
  refine y_calli E (y_runS E (rest := []) (kX11_has l w E.2.2.1 σ ((σ 1 1) ||| (σ 1 2)) a1 _ hv) (y_cwS 2 E.1.2.2.2.2 wm_274 wm_115 wm_116 wm_117 (by decide +kernel) (yRm_le (by decide) (by decide))) rfl rfl (Nat.le_of_ble_eq_true rfl) dX11_takenCell_16) (fun v1 u2 hk => ?_)
  clear hv
  have hv := hk
  clear hk
  refine y_if_ne (tgt := 25) E dX11_takenCell_19 (by decide) (fun c3 => ?_) (fun c3 => ?_)
  · replace hv := ite_f hv c3
    refine y_iload_n E dX11_takenCell_25 2 rfl ?_
    refine y_bipush (v := 6) E dX11_takenCell_26 (by decide) ?_
    refine y_icmp_eq (tgt := 34) E dX11_takenCell_28 (by decide) (fun c4 => ?_) (fun c4 => ?_)
    · replace hv := ite_t hv c4
      refine y_aload_n E dX11_takenCell_34 0 rfl ?_
      refine gf_X11_0 E (by decide) (by decide) wm_272 dX11_takenCell_35 ?_
      refine gf_X3_1 E (by decide) (by decide) wm_288 dX11_takenCell_38 ?_
      refine y_iload_n E dX11_takenCell_41 1 rfl ?_
      refine y_calli E (y_runS E (rest := []) (kX11_has l w E.2.2.1 u2 (u2 1 1) a1 _ hv) (y_cwS 2 E.1.2.2.2.2 wm_274 wm_115 wm_116 wm_117 (by decide +kernel) (yRm_le (by decide) (by decide))) rfl rfl (Nat.le_of_ble_eq_true rfl) dX11_takenCell_42) (fun v5 u6 hk => ?_)
      clear hv
      have hv := hk
      clear hk
      refine y_if_eq (tgt := 52) E dX11_takenCell_45 (by decide) (fun c7 => ?_) (fun c7 => ?_)
      · replace hv := ite_t hv c7
        refine y_iconst (v := 0) E dX11_takenCell_52 (by decide) ?_
        exact y_iret E dX11_takenCell_53 hv
      · replace hv := ite_f hv c7
        refine y_iconst (v := 1) E dX11_takenCell_48 (by decide) ?_
        refine y_goto (tgt := 53) E dX11_takenCell_49 (by decide) ?_
        exact y_iret E dX11_takenCell_53 hv
    · replace hv := ite_f hv c4
      refine y_bipush (v := (-13)) E dX11_takenCell_31 (by decide) ?_
      exact y_iret E dX11_takenCell_33 hv
  · replace hv := ite_t hv c3
    refine y_bipush (v := (-11)) E dX11_takenCell_22 (by decide) ?_
    exact y_iret E dX11_takenCell_24 hv
theorem dX11_takenThing_0 : decode cX11_takenThing 0 = .ok (.aload_n 0, 1) := by decide +kernel
theorem dX11_takenThing_1 : decode cX11_takenThing 1 = .ok (.iload_n 1, 1) := by decide +kernel
theorem dX11_takenThing_2 : decode cX11_takenThing 2 = .ok (.invokevirtual 175, 3) := by decide +kernel
theorem dX11_takenThing_5 : decode cX11_takenThing 5 = .ok (.ifCond .ne 6, 3) := by decide +kernel
theorem dX11_takenThing_8 : decode cX11_takenThing 8 = .ok (.bipush (-11), 2) := by decide +kernel
theorem dX11_takenThing_10 : decode cX11_takenThing 10 = .ok (.ireturn, 1) := by decide +kernel
theorem dX11_takenThing_11 : decode cX11_takenThing 11 = .ok (.aload_n 0, 1) := by decide +kernel
theorem dX11_takenThing_12 : decode cX11_takenThing 12 = .ok (.getfield 21, 3) := by decide +kernel
theorem dX11_takenThing_15 : decode cX11_takenThing 15 = .ok (.aload_n 0, 1) := by decide +kernel
theorem dX11_takenThing_16 : decode cX11_takenThing 16 = .ok (.getfield 12, 3) := by decide +kernel
theorem dX11_takenThing_19 : decode cX11_takenThing 19 = .ok (.getfield 164, 3) := by decide +kernel
theorem dX11_takenThing_22 : decode cX11_takenThing 22 = .ok (.iload_n 1, 1) := by decide +kernel
theorem dX11_takenThing_23 : decode cX11_takenThing 23 = .ok (.iaload, 1) := by decide +kernel
theorem dX11_takenThing_24 : decode cX11_takenThing 24 = .ok (.aaload, 1) := by decide +kernel
theorem dX11_takenThing_25 : decode cX11_takenThing 25 = .ok (.iload_n 2, 1) := by decide +kernel
theorem dX11_takenThing_26 : decode cX11_takenThing 26 = .ok (.invokevirtual 338, 3) := by decide +kernel
theorem dX11_takenThing_29 : decode cX11_takenThing 29 = .ok (.ifCond .eq 7, 3) := by decide +kernel
theorem dX11_takenThing_32 : decode cX11_takenThing 32 = .ok (.iload_n 1, 1) := by decide +kernel
theorem dX11_takenThing_33 : decode cX11_takenThing 33 = .ok (.goto 5, 3) := by decide +kernel
theorem dX11_takenThing_36 : decode cX11_takenThing 36 = .ok (.bipush (-13), 2) := by decide +kernel
theorem dX11_takenThing_38 : decode cX11_takenThing 38 = .ok (.ireturn, 1) := by decide +kernel
set_option maxRecDepth 100000 in
set_option maxHeartbeats 4000000 in
theorem kX11_takenThing (l : Launch) (w : wT) (hw : yOk w 55) (σ : Hp) (a1 : Int32) (a2 : Int32) (K : Int32 → Hp → Prop) (hv : VX11_takenThing K σ a1 a2) : yMet l w xcf 55 yX11_takenThing cX11_takenThing 3 (some .int) 4 [.ref (w.1 0), .int a1, .int a2] σ (yQi w xcf 55 K) := by
  unfold VX11_takenThing at hv
  refine y_start (lv0 := [(0, .ref (w.1 0)), (1, .int a1), (2, .int a2)]) (by decide +kernel) (own := RX11) rfl hw (Nat.le_of_ble_eq_true rfl) rfl (fun p e s m below meth c A E => ?_)
  refine y_aload_n E dX11_takenThing_0 0 rfl ?_
  refine y_iload_n E dX11_takenThing_1 1 rfl ?_
  refine y_calli E (y_runV E (rest := []) (kX11_isThing l w E.2.2.1 σ a1 _ hv) (y_cwV 1 E.1.2.2.2.2 wm_322 wm_323 wm_324 wm_116 wm_325 (by decide +kernel) (yRm_le (by decide) (by decide))) (Nat.lt_of_lt_of_le (show 0 < 1 by decide) (by decide)) (xc_X11 (by decide) (by decide)) rfl rfl rfl (Nat.le_of_ble_eq_true rfl) dX11_takenThing_2) (fun v1 u2 hk => ?_)
  clear hv
  have hv := hk
  clear hk
  refine y_if_ne (tgt := 11) E dX11_takenThing_5 (by decide) (fun c3 => ?_) (fun c3 => ?_)
  · replace hv := ite_f hv c3
    refine y_aload_n E dX11_takenThing_11 0 rfl ?_
    refine gf_X11_3 E (by decide) (by decide) wm_461 dX11_takenThing_12 ?_
    refine y_aload_n E dX11_takenThing_15 0 rfl ?_
    refine gf_X11_0 E (by decide) (by decide) wm_272 dX11_takenThing_16 ?_
    refine gf_X3_6 (q := 3) E (by decide) (by decide) rfl wm_313 dX11_takenThing_19 ?_
    refine y_iload_n E dX11_takenThing_22 1 rfl ?_
    obtain ⟨hi, hv⟩ := hv
    refine y_iald E (Nat.lt_of_lt_of_le (show 3 < 11 by decide) (by decide)) (xc_harr (by decide) (by decide)) hi dX11_takenThing_23 ?_
    obtain ⟨hi, hv⟩ := hv
    refine y_aald (t0 := 4) E (by decide) (xc_rkinds (by decide) (by decide)) rfl hi dX11_takenThing_24 ?_
    refine y_nmr (fun x4 hx4 => ?_)
    replace hv := hv x4 hx4
    have hgx4 : 12 ≤ x4 ∧ x4 < 18 := by have := vp_in_lt hi; omega
    refine y_iload_n E dX11_takenThing_25 2 rfl ?_
    refine y_calli E (rP_isOne E (by decide) hv wm_476 (Nat.le_of_ble_eq_true rfl) dX11_takenThing_26) (fun v5 u6 hk => ?_)
    clear hv
    have hv := hk
    clear hk
    refine y_if_eq (tgt := 36) E dX11_takenThing_29 (by decide) (fun c7 => ?_) (fun c7 => ?_)
    · replace hv := ite_t hv c7
      refine y_bipush (v := (-13)) E dX11_takenThing_36 (by decide) ?_
      exact y_iret E dX11_takenThing_38 hv
    · replace hv := ite_f hv c7
      refine y_iload_n E dX11_takenThing_32 1 rfl ?_
      refine y_goto (tgt := 38) E dX11_takenThing_33 (by decide) ?_
      exact y_iret E dX11_takenThing_38 hv
  · replace hv := ite_t hv c3
    refine y_bipush (v := (-11)) E dX11_takenThing_8 (by decide) ?_
    exact y_iret E dX11_takenThing_10 hv
theorem dX11_taken_0 : decode cX11_taken 0 = .ok (.iload_n 2, 1) := by decide +kernel
theorem dX11_taken_1 : decode cX11_taken 1 = .ok (.ifCond .lt 9, 3) := by decide +kernel
theorem dX11_taken_4 : decode cX11_taken 4 = .ok (.iload_n 2, 1) := by decide +kernel
theorem dX11_taken_5 : decode cX11_taken 5 = .ok (.bipush 6, 2) := by decide +kernel
theorem dX11_taken_7 : decode cX11_taken 7 = .ok (.if_icmp .le 6, 3) := by decide +kernel
theorem dX11_taken_10 : decode cX11_taken 10 = .ok (.bipush (-2), 2) := by decide +kernel
theorem dX11_taken_12 : decode cX11_taken 12 = .ok (.ireturn, 1) := by decide +kernel
theorem dX11_taken_13 : decode cX11_taken 13 = .ok (.iload_n 1, 1) := by decide +kernel
theorem dX11_taken_14 : decode cX11_taken 14 = .ok (.ifCond .lt 9, 3) := by decide +kernel
theorem dX11_taken_17 : decode cX11_taken 17 = .ok (.iload_n 1, 1) := by decide +kernel
theorem dX11_taken_18 : decode cX11_taken 18 = .ok (.bipush 35, 2) := by decide +kernel
theorem dX11_taken_20 : decode cX11_taken 20 = .ok (.if_icmp .lt 6, 3) := by decide +kernel
theorem dX11_taken_23 : decode cX11_taken 23 = .ok (.bipush (-12), 2) := by decide +kernel
theorem dX11_taken_25 : decode cX11_taken 25 = .ok (.ireturn, 1) := by decide +kernel
theorem dX11_taken_26 : decode cX11_taken 26 = .ok (.iload_n 1, 1) := by decide +kernel
theorem dX11_taken_27 : decode cX11_taken 27 = .ok (.bipush 30, 2) := by decide +kernel
theorem dX11_taken_29 : decode cX11_taken 29 = .ok (.if_icmp .ge 12, 3) := by decide +kernel
theorem dX11_taken_32 : decode cX11_taken 32 = .ok (.aload_n 0, 1) := by decide +kernel
theorem dX11_taken_33 : decode cX11_taken 33 = .ok (.iload_n 1, 1) := by decide +kernel
theorem dX11_taken_34 : decode cX11_taken 34 = .ok (.iload_n 2, 1) := by decide +kernel
theorem dX11_taken_35 : decode cX11_taken 35 = .ok (.invokevirtual 304, 3) := by decide +kernel
theorem dX11_taken_38 : decode cX11_taken 38 = .ok (.goto 12, 3) := by decide +kernel
theorem dX11_taken_41 : decode cX11_taken 41 = .ok (.aload_n 0, 1) := by decide +kernel
theorem dX11_taken_42 : decode cX11_taken 42 = .ok (.iload_n 1, 1) := by decide +kernel
theorem dX11_taken_43 : decode cX11_taken 43 = .ok (.bipush 30, 2) := by decide +kernel
theorem dX11_taken_45 : decode cX11_taken 45 = .ok (.isub, 1) := by decide +kernel
theorem dX11_taken_46 : decode cX11_taken 46 = .ok (.iload_n 2, 1) := by decide +kernel
theorem dX11_taken_47 : decode cX11_taken 47 = .ok (.invokevirtual 307, 3) := by decide +kernel
theorem dX11_taken_50 : decode cX11_taken 50 = .ok (.ireturn, 1) := by decide +kernel
set_option maxRecDepth 100000 in
set_option maxHeartbeats 4000000 in
theorem kX11_taken (l : Launch) (w : wT) (hw : yOk w 55) (σ : Hp) (a1 : Int32) (a2 : Int32) (K : Int32 → Hp → Prop) (hv : VX11_taken K σ a1 a2) : yMet l w xcf 55 yX11_taken cX11_taken 3 (some .int) 5 [.ref (w.1 0), .int a1, .int a2] σ (yQi w xcf 55 K) := by
  unfold VX11_taken at hv
  refine y_start (lv0 := [(0, .ref (w.1 0)), (1, .int a1), (2, .int a2)]) (by decide +kernel) (own := RX11) rfl hw (Nat.le_of_ble_eq_true rfl) rfl (fun p e s m below meth c A E => ?_)
  refine y_iload_n E dX11_taken_0 2 rfl ?_
  refine y_if_lt (tgt := 10) E dX11_taken_1 (by decide) (fun c1 => ?_) (fun c1 => ?_)
  · replace hv := ite_t hv c1
    refine y_bipush (v := (-2)) E dX11_taken_10 (by decide) ?_
    exact y_iret E dX11_taken_12 hv
  · replace hv := ite_f hv c1
    refine y_iload_n E dX11_taken_4 2 rfl ?_
    refine y_bipush (v := 6) E dX11_taken_5 (by decide) ?_
    refine y_icmp_le (tgt := 13) E dX11_taken_7 (by decide) (fun c2 => ?_) (fun c2 => ?_)
    · replace hv := ite_t hv c2
      refine y_iload_n E dX11_taken_13 1 rfl ?_
      refine y_if_lt (tgt := 23) E dX11_taken_14 (by decide) (fun c3 => ?_) (fun c3 => ?_)
      · replace hv := ite_t hv c3
        refine y_bipush (v := (-12)) E dX11_taken_23 (by decide) ?_
        exact y_iret E dX11_taken_25 hv
      · replace hv := ite_f hv c3
        refine y_iload_n E dX11_taken_17 1 rfl ?_
        refine y_bipush (v := 35) E dX11_taken_18 (by decide) ?_
        refine y_icmp_lt (tgt := 26) E dX11_taken_20 (by decide) (fun c4 => ?_) (fun c4 => ?_)
        · replace hv := ite_t hv c4
          refine y_iload_n E dX11_taken_26 1 rfl ?_
          refine y_bipush (v := 30) E dX11_taken_27 (by decide) ?_
          refine y_icmp_ge (tgt := 41) E dX11_taken_29 (by decide) (fun c5 => ?_) (fun c5 => ?_)
          · replace hv := ite_t hv c5
            refine y_aload_n E dX11_taken_41 0 rfl ?_
            refine y_iload_n E dX11_taken_42 1 rfl ?_
            refine y_bipush (v := 30) E dX11_taken_43 (by decide) ?_
            refine y_isub E dX11_taken_45 ?_
            refine y_iload_n E dX11_taken_46 2 rfl ?_
            refine y_calli E (y_runV E (rest := []) (kX11_takenThing l w E.2.2.1 σ (a1 - 30) a2 _ hv) (y_cwV 2 E.1.2.2.2.2 wm_448 wm_449 wm_450 wm_116 wm_451 (by decide +kernel) (yRm_le (by decide) (by decide))) (Nat.lt_of_lt_of_le (show 0 < 1 by decide) (by decide)) (xc_X11 (by decide) (by decide)) rfl rfl rfl (Nat.le_of_ble_eq_true rfl) dX11_taken_47) (fun v6 u7 hk => ?_)
            clear hv
            have hv := hk
            clear hk
            exact y_iret E dX11_taken_50 hv
          · replace hv := ite_f hv c5
            refine y_aload_n E dX11_taken_32 0 rfl ?_
            refine y_iload_n E dX11_taken_33 1 rfl ?_
            refine y_iload_n E dX11_taken_34 2 rfl ?_
            refine y_calli E (y_runV E (rest := []) (kX11_takenCell l w E.2.2.1 σ a1 a2 _ hv) (y_cwV 2 E.1.2.2.2.2 wm_452 wm_453 wm_454 wm_116 wm_455 (by decide +kernel) (yRm_le (by decide) (by decide))) (Nat.lt_of_lt_of_le (show 0 < 1 by decide) (by decide)) (xc_X11 (by decide) (by decide)) rfl rfl rfl (Nat.le_of_ble_eq_true rfl) dX11_taken_35) (fun v8 u9 hk => ?_)
            clear hv
            have hv := hk
            clear hk
            refine y_goto (tgt := 50) E dX11_taken_38 (by decide) ?_
            exact y_iret E dX11_taken_50 hv
        · replace hv := ite_f hv c4
          refine y_bipush (v := (-12)) E dX11_taken_23 (by decide) ?_
          exact y_iret E dX11_taken_25 hv
    · replace hv := ite_f hv c2
      refine y_bipush (v := (-2)) E dX11_taken_10 (by decide) ?_
      exact y_iret E dX11_taken_12 hv
theorem dX12_in_0 : decode cX12_in 0 = .ok (.iload_n 0, 1) := by decide +kernel
theorem dX12_in_1 : decode cX12_in 1 = .ok (.iload_n 1, 1) := by decide +kernel
theorem dX12_in_2 : decode cX12_in 2 = .ok (.if_icmp .lt 12, 3) := by decide +kernel
theorem dX12_in_5 : decode cX12_in 5 = .ok (.iload_n 0, 1) := by decide +kernel
theorem dX12_in_6 : decode cX12_in 6 = .ok (.iload_n 2, 1) := by decide +kernel
theorem dX12_in_7 : decode cX12_in 7 = .ok (.if_icmp .gt 7, 3) := by decide +kernel
theorem dX12_in_10 : decode cX12_in 10 = .ok (.iconst 1, 1) := by decide +kernel
theorem dX12_in_11 : decode cX12_in 11 = .ok (.goto 4, 3) := by decide +kernel
theorem dX12_in_14 : decode cX12_in 14 = .ok (.iconst 0, 1) := by decide +kernel
theorem dX12_in_15 : decode cX12_in 15 = .ok (.ireturn, 1) := by decide +kernel
set_option maxRecDepth 100000 in
set_option maxHeartbeats 4000000 in
theorem kX12_in (l : Launch) (w : wT) (hw : yOk w 20) (σ : Hp) (a1 : Int32) (a2 : Int32) (a3 : Int32) (K : Int32 → Hp → Prop) (hv : VX12_in K σ a1 a2 a3) : yMet l w mcf 20 yX12_in cX12_in 3 (some .boolean) 1 [.int a1, .int a2, .int a3] σ (yQi w mcf 20 K) := by
  unfold VX12_in at hv
  refine y_start (lv0 := [(0, .int a1), (1, .int a2), (2, .int a3)]) (by decide +kernel) (own := RX12) rfl hw (Nat.le_of_ble_eq_true rfl) rfl (fun p e s m below meth c A E => ?_)
  refine y_iload_n E dX12_in_0 0 rfl ?_
  refine y_iload_n E dX12_in_1 1 rfl ?_
  refine y_icmp_lt (tgt := 14) E dX12_in_2 (by decide) (fun c1 => ?_) (fun c1 => ?_)
  · replace hv := ite_t hv c1
    refine y_iconst (v := 0) E dX12_in_14 (by decide) ?_
    exact y_nret E dX12_in_15 (by decide) hv
  · replace hv := ite_f hv c1
    refine y_iload_n E dX12_in_5 0 rfl ?_
    refine y_iload_n E dX12_in_6 2 rfl ?_
    refine y_icmp_gt (tgt := 14) E dX12_in_7 (by decide) (fun c2 => ?_) (fun c2 => ?_)
    · replace hv := ite_t hv c2
      refine y_iconst (v := 0) E dX12_in_14 (by decide) ?_
      exact y_nret E dX12_in_15 (by decide) hv
    · replace hv := ite_f hv c2
      refine y_iconst (v := 1) E dX12_in_10 (by decide) ?_
      refine y_goto (tgt := 15) E dX12_in_11 (by decide) ?_
      exact y_nret E dX12_in_15 (by decide) hv
theorem dX12_within_0 : decode cX12_within 0 = .ok (.iload_n 0, 1) := by decide +kernel
theorem dX12_within_1 : decode cX12_within 1 = .ok (.iload_n 1, 1) := by decide +kernel
theorem dX12_within_2 : decode cX12_within 2 = .ok (.if_icmp .ge 7, 3) := by decide +kernel
theorem dX12_within_5 : decode cX12_within 5 = .ok (.iload_n 1, 1) := by decide +kernel
theorem dX12_within_6 : decode cX12_within 6 = .ok (.goto 13, 3) := by decide +kernel
theorem dX12_within_9 : decode cX12_within 9 = .ok (.iload_n 0, 1) := by decide +kernel
theorem dX12_within_10 : decode cX12_within 10 = .ok (.iload_n 2, 1) := by decide +kernel
theorem dX12_within_11 : decode cX12_within 11 = .ok (.if_icmp .le 7, 3) := by decide +kernel
theorem dX12_within_14 : decode cX12_within 14 = .ok (.iload_n 2, 1) := by decide +kernel
theorem dX12_within_15 : decode cX12_within 15 = .ok (.goto 4, 3) := by decide +kernel
theorem dX12_within_18 : decode cX12_within 18 = .ok (.iload_n 0, 1) := by decide +kernel
theorem dX12_within_19 : decode cX12_within 19 = .ok (.ireturn, 1) := by decide +kernel
set_option maxRecDepth 100000 in
set_option maxHeartbeats 4000000 in
theorem kX12_within (l : Launch) (w : wT) (hw : yOk w 20) (σ : Hp) (a1 : Int32) (a2 : Int32) (a3 : Int32) (K : Int32 → Hp → Prop) (hv : VX12_within K σ a1 a2 a3) : yMet l w mcf 20 yX12_within cX12_within 3 (some .int) 1 [.int a1, .int a2, .int a3] σ (yQi w mcf 20 K) := by
  unfold VX12_within at hv
  refine y_start (lv0 := [(0, .int a1), (1, .int a2), (2, .int a3)]) (by decide +kernel) (own := RX12) rfl hw (Nat.le_of_ble_eq_true rfl) rfl (fun p e s m below meth c A E => ?_)
  refine y_iload_n E dX12_within_0 0 rfl ?_
  refine y_iload_n E dX12_within_1 1 rfl ?_
  refine y_icmp_ge (tgt := 9) E dX12_within_2 (by decide) (fun c1 => ?_) (fun c1 => ?_)
  · replace hv := ite_t hv c1
    refine y_iload_n E dX12_within_9 0 rfl ?_
    refine y_iload_n E dX12_within_10 2 rfl ?_
    refine y_icmp_le (tgt := 18) E dX12_within_11 (by decide) (fun c2 => ?_) (fun c2 => ?_)
    · replace hv := ite_t hv c2
      refine y_iload_n E dX12_within_18 0 rfl ?_
      exact y_iret E dX12_within_19 hv
    · replace hv := ite_f hv c2
      refine y_iload_n E dX12_within_14 2 rfl ?_
      refine y_goto (tgt := 19) E dX12_within_15 (by decide) ?_
      exact y_iret E dX12_within_19 hv
  · replace hv := ite_f hv c1
    refine y_iload_n E dX12_within_5 1 rfl ?_
    refine y_goto (tgt := 19) E dX12_within_6 (by decide) ?_
    exact y_iret E dX12_within_19 hv
theorem dX12_isCell_0 : decode cX12_isCell 0 = .ok (.iload_n 0, 1) := by decide +kernel
theorem dX12_isCell_1 : decode cX12_isCell 1 = .ok (.iconst 0, 1) := by decide +kernel
theorem dX12_isCell_2 : decode cX12_isCell 2 = .ok (.bipush 29, 2) := by decide +kernel
theorem dX12_isCell_4 : decode cX12_isCell 4 = .ok (.invokestatic 75, 3) := by decide +kernel
theorem dX12_isCell_7 : decode cX12_isCell 7 = .ok (.ireturn, 1) := by decide +kernel
set_option maxRecDepth 100000 in
set_option maxHeartbeats 4000000 in
theorem kX12_isCell (l : Launch) (w : wT) (hw : yOk w 20) (σ : Hp) (a1 : Int32) (K : Int32 → Hp → Prop) (hv : VX12_isCell K σ a1) : yMet l w mcf 20 yX12_isCell cX12_isCell 1 (some .boolean) 2 [.int a1] σ (yQi w mcf 20 K) := by
  unfold VX12_isCell at hv
  refine y_start (lv0 := [(0, .int a1)]) (by decide +kernel) (own := RX12) rfl hw (Nat.le_of_ble_eq_true rfl) rfl (fun p e s m below meth c A E => ?_)
  refine y_iload_n E dX12_isCell_0 0 rfl ?_
  refine y_iconst (v := 0) E dX12_isCell_1 (by decide) ?_
  refine y_bipush (v := 29) E dX12_isCell_2 (by decide) ?_
  refine y_calli E (y_runS E (rest := []) (kX12_in l w E.2.2.1 σ a1 0 29 _ hv) (y_cwS 3 E.1.2.2.2.2 wm_477 wm_478 wm_479 wm_480 (by decide +kernel) (yRm_le (by decide) (by decide))) rfl rfl (Nat.le_of_ble_eq_true rfl) dX12_isCell_4) (fun v1 u2 hk => ?_)
  clear hv
  have hv := hk
  clear hk
  exact y_nret E dX12_isCell_7 (nar01 hv.1) hv.2
theorem dX12_has_0 : decode cX12_has 0 = .ok (.aload_n 0, 1) := by decide +kernel
theorem dX12_has_1 : decode cX12_has 1 = .ok (.getfield 7, 3) := by decide +kernel
theorem dX12_has_4 : decode cX12_has 4 = .ok (.iload_n 1, 1) := by decide +kernel
theorem dX12_has_5 : decode cX12_has 5 = .ok (.iaload, 1) := by decide +kernel
theorem dX12_has_6 : decode cX12_has 6 = .ok (.iload_n 2, 1) := by decide +kernel
theorem dX12_has_7 : decode cX12_has 7 = .ok (.ishr, 1) := by decide +kernel
theorem dX12_has_8 : decode cX12_has 8 = .ok (.iconst 1, 1) := by decide +kernel
theorem dX12_has_9 : decode cX12_has 9 = .ok (.iand, 1) := by decide +kernel
theorem dX12_has_10 : decode cX12_has 10 = .ok (.iconst 1, 1) := by decide +kernel
theorem dX12_has_11 : decode cX12_has 11 = .ok (.if_icmp .ne 7, 3) := by decide +kernel
theorem dX12_has_14 : decode cX12_has 14 = .ok (.iconst 1, 1) := by decide +kernel
theorem dX12_has_15 : decode cX12_has 15 = .ok (.goto 4, 3) := by decide +kernel
theorem dX12_has_18 : decode cX12_has 18 = .ok (.iconst 0, 1) := by decide +kernel
theorem dX12_has_19 : decode cX12_has 19 = .ok (.ireturn, 1) := by decide +kernel
set_option maxRecDepth 100000 in
set_option maxHeartbeats 4000000 in
theorem kX12_has (l : Launch) (w : wT) (hw : yOk w 20) (σ : Hp) (a1 : Int32) (a2 : Int32) (K : Int32 → Hp → Prop) (hv : VX12_has K σ a1 a2) : yMet l w mcf 20 yX12_has cX12_has 3 (some .boolean) 1 [.ref (w.1 0), .int a1, .int a2] σ (yQi w mcf 20 K) := by
  unfold VX12_has at hv
  refine y_start (lv0 := [(0, .ref (w.1 0)), (1, .int a1), (2, .int a2)]) (by decide +kernel) (own := RX12) rfl hw (Nat.le_of_ble_eq_true rfl) rfl (fun p e s m below meth c A E => ?_)
  refine y_aload_n E dX12_has_0 0 rfl ?_
  refine gf_X12_0 E (by decide) (by decide) wm_481 dX12_has_1 ?_
  refine y_iload_n E dX12_has_4 1 rfl ?_
  obtain ⟨hi, hv⟩ := hv
  refine y_iald E (Nat.lt_of_lt_of_le (show 1 < 2 by decide) (by decide)) (mc_m_sets (by decide) (by decide)) hi dX12_has_5 ?_
  refine y_iload_n E dX12_has_6 2 rfl ?_
  refine y_ishr E dX12_has_7 ?_
  refine y_iconst (v := 1) E dX12_has_8 (by decide) ?_
  refine y_iand E dX12_has_9 ?_
  refine y_iconst (v := 1) E dX12_has_10 (by decide) ?_
  refine y_icmp_ne (tgt := 18) E dX12_has_11 (by decide) (fun c1 => ?_) (fun c1 => ?_)
  · replace hv := ite_f hv c1
    refine y_iconst (v := 0) E dX12_has_18 (by decide) ?_
    exact y_nret E dX12_has_19 (by decide) hv
  · replace hv := ite_t hv c1
    refine y_iconst (v := 1) E dX12_has_14 (by decide) ?_
    refine y_goto (tgt := 19) E dX12_has_15 (by decide) ?_
    exact y_nret E dX12_has_19 (by decide) hv
theorem dX12_isFree_0 : decode cX12_isFree 0 = .ok (.iload_n 1, 1) := by decide +kernel
theorem dX12_isFree_1 : decode cX12_isFree 1 = .ok (.invokestatic 79, 3) := by decide +kernel
theorem dX12_isFree_4 : decode cX12_isFree 4 = .ok (.ifCond .eq 16, 3) := by decide +kernel
theorem dX12_isFree_7 : decode cX12_isFree 7 = .ok (.aload_n 0, 1) := by decide +kernel
theorem dX12_isFree_8 : decode cX12_isFree 8 = .ok (.iconst 0, 1) := by decide +kernel
theorem dX12_isFree_9 : decode cX12_isFree 9 = .ok (.iload_n 1, 1) := by decide +kernel
theorem dX12_isFree_10 : decode cX12_isFree 10 = .ok (.invokevirtual 83, 3) := by decide +kernel
theorem dX12_isFree_13 : decode cX12_isFree 13 = .ok (.ifCond .ne 7, 3) := by decide +kernel
theorem dX12_isFree_16 : decode cX12_isFree 16 = .ok (.iconst 1, 1) := by decide +kernel
theorem dX12_isFree_17 : decode cX12_isFree 17 = .ok (.goto 4, 3) := by decide +kernel
theorem dX12_isFree_20 : decode cX12_isFree 20 = .ok (.iconst 0, 1) := by decide +kernel
theorem dX12_isFree_21 : decode cX12_isFree 21 = .ok (.ireturn, 1) := by decide +kernel
set_option maxRecDepth 100000 in
set_option maxHeartbeats 4000000 in
theorem kX12_isFree (l : Launch) (w : wT) (hw : yOk w 20) (σ : Hp) (a1 : Int32) (K : Int32 → Hp → Prop) (hv : VX12_isFree K σ a1) : yMet l w mcf 20 yX12_isFree cX12_isFree 2 (some .boolean) 3 [.ref (w.1 0), .int a1] σ (yQi w mcf 20 K) := by
  unfold VX12_isFree at hv
  refine y_start (lv0 := [(0, .ref (w.1 0)), (1, .int a1)]) (by decide +kernel) (own := RX12) rfl hw (Nat.le_of_ble_eq_true rfl) rfl (fun p e s m below meth c A E => ?_)
  refine y_iload_n E dX12_isFree_0 1 rfl ?_
  refine y_calli E (y_runS E (rest := []) (kX12_isCell l w E.2.2.1 σ a1 _ hv) (y_cwS 1 E.1.2.2.2.2 wm_482 wm_487 wm_479 wm_488 (by decide +kernel) (yRm_le (by decide) (by decide))) rfl rfl (Nat.le_of_ble_eq_true rfl) dX12_isFree_1) (fun v1 u2 hk => ?_)
  clear hv
  have hv := hk
  clear hk
  refine y_if_eq (tgt := 20) E dX12_isFree_4 (by decide) (fun c3 => ?_) (fun c3 => ?_)
  · replace hv := ite_t hv c3
    refine y_iconst (v := 0) E dX12_isFree_20 (by decide) ?_
    exact y_nret E dX12_isFree_21 (by decide) hv
  · replace hv := ite_f hv c3
    refine y_aload_n E dX12_isFree_7 0 rfl ?_
    refine y_iconst (v := 0) E dX12_isFree_8 (by decide) ?_
    refine y_iload_n E dX12_isFree_9 1 rfl ?_
    refine y_calli E (y_runV E (rest := []) (kX12_has l w E.2.2.1 u2 0 a1 _ hv) (y_cwV 2 E.1.2.2.2.2 wm_483 wm_484 wm_485 wm_479 wm_486 (by decide +kernel) (yRm_le (by decide) (by decide))) (Nat.lt_of_lt_of_le (show 0 < 1 by decide) (by decide)) (mc_X12 (by decide) (by decide)) rfl rfl rfl (Nat.le_of_ble_eq_true rfl) dX12_isFree_10) (fun v4 u5 hk => ?_)
    clear hv
    have hv := hk
    clear hk
    refine y_if_ne (tgt := 20) E dX12_isFree_13 (by decide) (fun c6 => ?_) (fun c6 => ?_)
    · replace hv := ite_f hv c6
      refine y_iconst (v := 0) E dX12_isFree_20 (by decide) ?_
      exact y_nret E dX12_isFree_21 (by decide) hv
    · replace hv := ite_t hv c6
      refine y_iconst (v := 1) E dX12_isFree_16 (by decide) ?_
      refine y_goto (tgt := 21) E dX12_isFree_17 (by decide) ?_
      exact y_nret E dX12_isFree_21 (by decide) hv
theorem dX12_isThing_0 : decode cX12_isThing 0 = .ok (.iload_n 1, 1) := by decide +kernel
theorem dX12_isThing_1 : decode cX12_isThing 1 = .ok (.iconst 0, 1) := by decide +kernel
theorem dX12_isThing_2 : decode cX12_isThing 2 = .ok (.aload_n 0, 1) := by decide +kernel
theorem dX12_isThing_3 : decode cX12_isThing 3 = .ok (.getfield 87, 3) := by decide +kernel
theorem dX12_isThing_6 : decode cX12_isThing 6 = .ok (.iconst 1, 1) := by decide +kernel
theorem dX12_isThing_7 : decode cX12_isThing 7 = .ok (.isub, 1) := by decide +kernel
theorem dX12_isThing_8 : decode cX12_isThing 8 = .ok (.invokestatic 75, 3) := by decide +kernel
theorem dX12_isThing_11 : decode cX12_isThing 11 = .ok (.ireturn, 1) := by decide +kernel
set_option maxRecDepth 100000 in
set_option maxHeartbeats 4000000 in
theorem kX12_isThing (l : Launch) (w : wT) (hw : yOk w 20) (σ : Hp) (a1 : Int32) (K : Int32 → Hp → Prop) (hv : VX12_isThing K σ a1) : yMet l w mcf 20 yX12_isThing cX12_isThing 2 (some .boolean) 2 [.ref (w.1 0), .int a1] σ (yQi w mcf 20 K) := by
  unfold VX12_isThing at hv
  refine y_start (lv0 := [(0, .ref (w.1 0)), (1, .int a1)]) (by decide +kernel) (own := RX12) rfl hw (Nat.le_of_ble_eq_true rfl) rfl (fun p e s m below meth c A E => ?_)
  refine y_iload_n E dX12_isThing_0 1 rfl ?_
  refine y_iconst (v := 0) E dX12_isThing_1 (by decide) ?_
  refine y_aload_n E dX12_isThing_2 0 rfl ?_
  refine gf_X12_2 E (by decide) (by decide) wm_489 dX12_isThing_3 ?_
  refine y_iconst (v := 1) E dX12_isThing_6 (by decide) ?_
  refine y_isub E dX12_isThing_7 ?_
  refine y_calli E (y_runS E (rest := []) (kX12_in l w E.2.2.1 σ a1 0 ((σ 0 2) - 1) _ hv) (y_cwS 3 E.1.2.2.2.2 wm_477 wm_478 wm_479 wm_480 (by decide +kernel) (yRm_le (by decide) (by decide))) rfl rfl (Nat.le_of_ble_eq_true rfl) dX12_isThing_8) (fun v1 u2 hk => ?_)
  clear hv
  have hv := hk
  clear hk
  exact y_nret E dX12_isThing_11 (nar01 hv.1) hv.2
theorem dX12_areSteps_0 : decode cX12_areSteps 0 = .ok (.iload_n 0, 1) := by decide +kernel
theorem dX12_areSteps_1 : decode cX12_areSteps 1 = .ok (.iconst 0, 1) := by decide +kernel
theorem dX12_areSteps_2 : decode cX12_areSteps 2 = .ok (.bipush 40, 2) := by decide +kernel
theorem dX12_areSteps_4 : decode cX12_areSteps 4 = .ok (.invokestatic 75, 3) := by decide +kernel
theorem dX12_areSteps_7 : decode cX12_areSteps 7 = .ok (.ireturn, 1) := by decide +kernel
set_option maxRecDepth 100000 in
set_option maxHeartbeats 4000000 in
theorem kX12_areSteps (l : Launch) (w : wT) (hw : yOk w 20) (σ : Hp) (a1 : Int32) (K : Int32 → Hp → Prop) (hv : VX12_areSteps K σ a1) : yMet l w mcf 20 yX12_areSteps cX12_areSteps 1 (some .boolean) 2 [.int a1] σ (yQi w mcf 20 K) := by
  unfold VX12_areSteps at hv
  refine y_start (lv0 := [(0, .int a1)]) (by decide +kernel) (own := RX12) rfl hw (Nat.le_of_ble_eq_true rfl) rfl (fun p e s m below meth c A E => ?_)
  refine y_iload_n E dX12_areSteps_0 0 rfl ?_
  refine y_iconst (v := 0) E dX12_areSteps_1 (by decide) ?_
  refine y_bipush (v := 40) E dX12_areSteps_2 (by decide) ?_
  refine y_calli E (y_runS E (rest := []) (kX12_in l w E.2.2.1 σ a1 0 40 _ hv) (y_cwS 3 E.1.2.2.2.2 wm_477 wm_478 wm_479 wm_480 (by decide +kernel) (yRm_le (by decide) (by decide))) rfl rfl (Nat.le_of_ble_eq_true rfl) dX12_areSteps_4) (fun v1 u2 hk => ?_)
  clear hv
  have hv := hk
  clear hk
  exact y_nret E dX12_areSteps_7 (nar01 hv.1) hv.2
theorem dX12_isThere_0 : decode cX12_isThere 0 = .ok (.iconst 0, 1) := by decide +kernel
theorem dX12_isThere_1 : decode cX12_isThere 1 = .ok (.istore_n 2, 1) := by decide +kernel
theorem dX12_isThere_2 : decode cX12_isThere 2 = .ok (.iload_n 2, 1) := by decide +kernel
theorem dX12_isThere_3 : decode cX12_isThere 3 = .ok (.aload_n 0, 1) := by decide +kernel
theorem dX12_isThere_4 : decode cX12_isThere 4 = .ok (.getfield 87, 3) := by decide +kernel
theorem dX12_isThere_7 : decode cX12_isThere 7 = .ok (.if_icmp .ge 21, 3) := by decide +kernel
theorem dX12_isThere_10 : decode cX12_isThere 10 = .ok (.aload_n 0, 1) := by decide +kernel
theorem dX12_isThere_11 : decode cX12_isThere 11 = .ok (.getfield 19, 3) := by decide +kernel
theorem dX12_isThere_14 : decode cX12_isThere 14 = .ok (.iload_n 2, 1) := by decide +kernel
theorem dX12_isThere_15 : decode cX12_isThere 15 = .ok (.iaload, 1) := by decide +kernel
theorem dX12_isThere_16 : decode cX12_isThere 16 = .ok (.iload_n 1, 1) := by decide +kernel
theorem dX12_isThere_17 : decode cX12_isThere 17 = .ok (.if_icmp .ne 5, 3) := by decide +kernel
theorem dX12_isThere_20 : decode cX12_isThere 20 = .ok (.iconst 1, 1) := by decide +kernel
theorem dX12_isThere_21 : decode cX12_isThere 21 = .ok (.ireturn, 1) := by decide +kernel
theorem dX12_isThere_22 : decode cX12_isThere 22 = .ok (.iinc 2 1, 3) := by decide +kernel
theorem dX12_isThere_25 : decode cX12_isThere 25 = .ok (.goto (-23), 3) := by decide +kernel
theorem dX12_isThere_28 : decode cX12_isThere 28 = .ok (.iconst 0, 1) := by decide +kernel
theorem dX12_isThere_29 : decode cX12_isThere 29 = .ok (.ireturn, 1) := by decide +kernel
set_option maxRecDepth 100000 in
set_option maxHeartbeats 4000000 in
theorem kX12_isThere (l : Launch) (w : wT) (hw : yOk w 20) (σ : Hp) (a1 : Int32) (K : Int32 → Hp → Prop) (hv : VX12_isThere K σ a1) : yMet l w mcf 20 yX12_isThere cX12_isThere 3 (some .boolean) 1 [.ref (w.1 0), .int a1] σ (yQi w mcf 20 K) := by
  unfold VX12_isThere at hv
  refine y_start (lv0 := [(0, .ref (w.1 0)), (1, .int a1)]) (by decide +kernel) (own := RX12) rfl hw (Nat.le_of_ble_eq_true rfl) rfl (fun p e s m below meth c A E => ?_)
  have hL2 : ∀ (n2 : Nat) (σ : Hp) (l1 : Int32) (l2 : Int32), VX12_isThere_L2 K n2 σ l1 l2 → YY p l e (yRm 1) s m [.ref (w.1 0), .int a1].toArray below meth c w mcf 20 A (MQ below (yQi w mcf 20 K A) [.ref (w.1 0), .int a1].toArray s 0 0 A) 3 σ 2 [(0, .ref (w.1 0)), (1, .int l1), (2, .int l2)] [] := by
    intro n2
    induction n2 with
    | zero => exact fun _ _ _ hv => (by unfold VX12_isThere_L2 at hv; exact hv.elim)
    | succ n2 ih2 =>
      intro σ l1 l2 hv
      unfold VX12_isThere_L2 at hv
      refine y_iload_n E dX12_isThere_2 2 rfl ?_
      refine y_aload_n E dX12_isThere_3 0 rfl ?_
      refine gf_X12_2 E (by decide) (by decide) wm_489 dX12_isThere_4 ?_
      refine y_icmp_ge (tgt := 28) E dX12_isThere_7 (by decide) (fun c1 => ?_) (fun c1 => ?_)
      · replace hv := ite_t hv c1
        refine y_iconst (v := 0) E dX12_isThere_28 (by decide) ?_
        exact y_nret E dX12_isThere_29 (by decide) hv
      · replace hv := ite_f hv c1
        refine y_aload_n E dX12_isThere_10 0 rfl ?_
        refine gf_X12_5 E (by decide) (by decide) wm_490 dX12_isThere_11 ?_
        refine y_iload_n E dX12_isThere_14 2 rfl ?_
        obtain ⟨hi, hv⟩ := hv
        refine y_iald E (Nat.lt_of_lt_of_le (show 4 < 5 by decide) (by decide)) (mc_m_cellOf (by decide) (by decide)) hi dX12_isThere_15 ?_
        refine y_iload_n E dX12_isThere_16 1 rfl ?_
        refine y_icmp_ne (tgt := 22) E dX12_isThere_17 (by decide) (fun c2 => ?_) (fun c2 => ?_)
        · replace hv := ite_f hv c2
          obtain ⟨x3, hx3⟩ : ∃ z : Int32, z = l2 + 1 := ⟨_, rfl⟩
          replace hv := hv x3 hx3
          refine y_iinc (v := x3) (lv' := [(2, .int x3), (0, .ref (w.1 0)), (1, .int l1)]) E dX12_isThere_22 2 rfl (by rw [hx3]; rfl) (by decide) rfl ?_
          refine y_goto (tgt := 2) E dX12_isThere_25 (by decide) ?_
          refine y_lv (lv' := [(0, .ref (w.1 0)), (1, .int l1), (2, .int x3)]) [1, 2, 0] rfl ?_
          exact ih2 σ l1 x3 hv
        · replace hv := ite_t hv c2
          refine y_iconst (v := 1) E dX12_isThere_20 (by decide) ?_
          exact y_nret E dX12_isThere_21 (by decide) hv
  refine y_iconst (v := 0) E dX12_isThere_0 (by decide) ?_
  refine y_istore_n (lv' := [(2, .int 0), (0, .ref (w.1 0)), (1, .int a1)]) E dX12_isThere_1 (by decide) rfl ?_
  refine y_lv (lv' := [(0, .ref (w.1 0)), (1, .int a1), (2, .int 0)]) [1, 2, 0] rfl ?_
  obtain ⟨n0, hv⟩ := hv
  exact hL2 n0 σ a1 0 hv
theorem dX12_house_0 : decode cX12_house 0 = .ok (.iload_n 1, 1) := by decide +kernel
theorem dX12_house_1 : decode cX12_house 1 = .ok (.iconst 0, 1) := by decide +kernel
theorem dX12_house_2 : decode cX12_house 2 = .ok (.iconst 2, 1) := by decide +kernel
theorem dX12_house_3 : decode cX12_house 3 = .ok (.invokestatic 75, 3) := by decide +kernel
theorem dX12_house_6 : decode cX12_house 6 = .ok (.ifCond .ne 5, 3) := by decide +kernel
theorem dX12_house_9 : decode cX12_house 9 = .ok (.iconst (-1), 1) := by decide +kernel
theorem dX12_house_10 : decode cX12_house 10 = .ok (.ireturn, 1) := by decide +kernel
theorem dX12_house_11 : decode cX12_house 11 = .ok (.iload_n 2, 1) := by decide +kernel
theorem dX12_house_12 : decode cX12_house 12 = .ok (.invokestatic 79, 3) := by decide +kernel
theorem dX12_house_15 : decode cX12_house 15 = .ok (.ifCond .eq 12, 3) := by decide +kernel
theorem dX12_house_18 : decode cX12_house 18 = .ok (.iload_n 3, 1) := by decide +kernel
theorem dX12_house_19 : decode cX12_house 19 = .ok (.iconst 0, 1) := by decide +kernel
theorem dX12_house_20 : decode cX12_house 20 = .ok (.iconst 1, 1) := by decide +kernel
theorem dX12_house_21 : decode cX12_house 21 = .ok (.invokestatic 75, 3) := by decide +kernel
theorem dX12_house_24 : decode cX12_house 24 = .ok (.ifCond .ne 6, 3) := by decide +kernel
theorem dX12_house_27 : decode cX12_house 27 = .ok (.bipush (-2), 2) := by decide +kernel
theorem dX12_house_29 : decode cX12_house 29 = .ok (.ireturn, 1) := by decide +kernel
theorem dX12_house_30 : decode cX12_house 30 = .ok (.iload_n 1, 1) := by decide +kernel
theorem dX12_house_31 : decode cX12_house 31 = .ok (.ifCond .ne 19, 3) := by decide +kernel
theorem dX12_house_34 : decode cX12_house 34 = .ok (.iload_n 3, 1) := by decide +kernel
theorem dX12_house_35 : decode cX12_house 35 = .ok (.iconst 1, 1) := by decide +kernel
theorem dX12_house_36 : decode cX12_house 36 = .ok (.if_icmp .ne 14, 3) := by decide +kernel
theorem dX12_house_39 : decode cX12_house 39 = .ok (.aload_n 0, 1) := by decide +kernel
theorem dX12_house_40 : decode cX12_house 40 = .ok (.iload_n 2, 1) := by decide +kernel
theorem dX12_house_41 : decode cX12_house 41 = .ok (.invokevirtual 90, 3) := by decide +kernel
theorem dX12_house_44 : decode cX12_house 44 = .ok (.ifCond .eq 6, 3) := by decide +kernel
theorem dX12_house_47 : decode cX12_house 47 = .ok (.bipush (-3), 2) := by decide +kernel
theorem dX12_house_49 : decode cX12_house 49 = .ok (.ireturn, 1) := by decide +kernel
theorem dX12_house_50 : decode cX12_house 50 = .ok (.aload_n 0, 1) := by decide +kernel
theorem dX12_house_51 : decode cX12_house 51 = .ok (.iload_n 1, 1) := by decide +kernel
theorem dX12_house_52 : decode cX12_house 52 = .ok (.iload_n 2, 1) := by decide +kernel
theorem dX12_house_53 : decode cX12_house 53 = .ok (.invokevirtual 83, 3) := by decide +kernel
theorem dX12_house_56 : decode cX12_house 56 = .ok (.ifCond .eq 7, 3) := by decide +kernel
theorem dX12_house_59 : decode cX12_house 59 = .ok (.iconst 1, 1) := by decide +kernel
theorem dX12_house_60 : decode cX12_house 60 = .ok (.goto 4, 3) := by decide +kernel
theorem dX12_house_63 : decode cX12_house 63 = .ok (.iconst 0, 1) := by decide +kernel
theorem dX12_house_64 : decode cX12_house 64 = .ok (.istore 4, 2) := by decide +kernel
theorem dX12_house_66 : decode cX12_house 66 = .ok (.aload_n 0, 1) := by decide +kernel
theorem dX12_house_67 : decode cX12_house 67 = .ok (.getfield 7, 3) := by decide +kernel
theorem dX12_house_70 : decode cX12_house 70 = .ok (.iload_n 1, 1) := by decide +kernel
theorem dX12_house_71 : decode cX12_house 71 = .ok (.iload_n 3, 1) := by decide +kernel
theorem dX12_house_72 : decode cX12_house 72 = .ok (.iconst 1, 1) := by decide +kernel
theorem dX12_house_73 : decode cX12_house 73 = .ok (.if_icmp .ne 16, 3) := by decide +kernel
theorem dX12_house_76 : decode cX12_house 76 = .ok (.aload_n 0, 1) := by decide +kernel
theorem dX12_house_77 : decode cX12_house 77 = .ok (.getfield 7, 3) := by decide +kernel
theorem dX12_house_80 : decode cX12_house 80 = .ok (.iload_n 1, 1) := by decide +kernel
theorem dX12_house_81 : decode cX12_house 81 = .ok (.iaload, 1) := by decide +kernel
theorem dX12_house_82 : decode cX12_house 82 = .ok (.iconst 1, 1) := by decide +kernel
theorem dX12_house_83 : decode cX12_house 83 = .ok (.iload_n 2, 1) := by decide +kernel
theorem dX12_house_84 : decode cX12_house 84 = .ok (.ishl, 1) := by decide +kernel
theorem dX12_house_85 : decode cX12_house 85 = .ok (.ior, 1) := by decide +kernel
theorem dX12_house_86 : decode cX12_house 86 = .ok (.goto 15, 3) := by decide +kernel
theorem dX12_house_89 : decode cX12_house 89 = .ok (.aload_n 0, 1) := by decide +kernel
theorem dX12_house_90 : decode cX12_house 90 = .ok (.getfield 7, 3) := by decide +kernel
theorem dX12_house_93 : decode cX12_house 93 = .ok (.iload_n 1, 1) := by decide +kernel
theorem dX12_house_94 : decode cX12_house 94 = .ok (.iaload, 1) := by decide +kernel
theorem dX12_house_95 : decode cX12_house 95 = .ok (.iconst 1, 1) := by decide +kernel
theorem dX12_house_96 : decode cX12_house 96 = .ok (.iload_n 2, 1) := by decide +kernel
theorem dX12_house_97 : decode cX12_house 97 = .ok (.ishl, 1) := by decide +kernel
theorem dX12_house_98 : decode cX12_house 98 = .ok (.iconst (-1), 1) := by decide +kernel
theorem dX12_house_99 : decode cX12_house 99 = .ok (.ixor, 1) := by decide +kernel
theorem dX12_house_100 : decode cX12_house 100 = .ok (.iand, 1) := by decide +kernel
theorem dX12_house_101 : decode cX12_house 101 = .ok (.iastore, 1) := by decide +kernel
theorem dX12_house_102 : decode cX12_house 102 = .ok (.iload 4, 2) := by decide +kernel
theorem dX12_house_104 : decode cX12_house 104 = .ok (.ireturn, 1) := by decide +kernel
set_option maxRecDepth 100000 in
set_option maxHeartbeats 4000000 in
theorem kX12_house (l : Launch) (w : wT) (hw : yOk w 20) (σ : Hp) (a1 : Int32) (a2 : Int32) (a3 : Int32) (K : Int32 → Hp → Prop) (hv : VX12_house K σ a1 a2 a3) : yMet l w mcf 20 yX12_house cX12_house 5 (some .int) 3 [.ref (w.1 0), .int a1, .int a2, .int a3] σ (yQi w mcf 20 K) := by
  unfold VX12_house at hv
  refine y_start (lv0 := [(0, .ref (w.1 0)), (1, .int a1), (2, .int a2), (3, .int a3)]) (by decide +kernel) (own := RX12) rfl hw (Nat.le_of_ble_eq_true rfl) rfl (fun p e s m below meth c A E => ?_)
  have hb64 : ∀ (σ : Hp) (l1 : Int32) (l2 : Int32) (l3 : Int32) (s0 : Int32), VX12_house_b64 K σ l1 l2 l3 s0 → YY p l e (yRm 3) s m [.ref (w.1 0), .int a1, .int a2, .int a3].toArray below meth c w mcf 20 A (MQ below (yQi w mcf 20 K A) [.ref (w.1 0), .int a1, .int a2, .int a3].toArray s 0 0 A) 5 σ 64 [(0, .ref (w.1 0)), (1, .int l1), (2, .int l2), (3, .int l3)] [.int s0] := by
    intro σ l1 l2 l3 s0 hv
    unfold VX12_house_b64 at hv
    refine y_istore (lv' := [(4, .int s0), (0, .ref (w.1 0)), (1, .int l1), (2, .int l2), (3, .int l3)]) E dX12_house_64 (by decide) rfl ?_
    refine y_aload_n E dX12_house_66 1 rfl ?_
    refine gf_X12_0 E (by decide) (by decide) wm_481 dX12_house_67 ?_
    refine y_iload_n E dX12_house_70 2 rfl ?_
    refine y_iload_n E dX12_house_71 4 rfl ?_
    refine y_iconst (v := 1) E dX12_house_72 (by decide) ?_
    refine y_icmp_ne (tgt := 89) E dX12_house_73 (by decide) (fun c18 => ?_) (fun c18 => ?_)
    · replace hv := ite_f hv c18
      refine y_aload_n E dX12_house_89 1 rfl ?_
      refine gf_X12_0 E (by decide) (by decide) wm_481 dX12_house_90 ?_
      refine y_iload_n E dX12_house_93 2 rfl ?_
      obtain ⟨hi, hv⟩ := hv
      refine y_iald E (Nat.lt_of_lt_of_le (show 1 < 2 by decide) (by decide)) (mc_m_sets (by decide) (by decide)) hi dX12_house_94 ?_
      refine y_iconst (v := 1) E dX12_house_95 (by decide) ?_
      refine y_iload_n E dX12_house_96 3 rfl ?_
      refine y_ishl E dX12_house_97 ?_
      refine y_iconst (v := (-1)) E dX12_house_98 (by decide) ?_
      refine y_ixor E dX12_house_99 ?_
      refine y_iand E dX12_house_100 ?_
      obtain ⟨hi, hv⟩ := hv
      refine y_iast E (Nat.lt_of_lt_of_le (show 1 < 2 by decide) (by decide)) (fun _ => mc_m_sets (by decide) (by decide)) hi dX12_house_101 ?_
      refine y_nmH (fun u19 hu19 => ?_)
      replace hv := hv u19 hu19
      refine y_iload E dX12_house_102 0 rfl ?_
      exact y_iret E dX12_house_104 hv
    · replace hv := ite_t hv c18
      refine y_aload_n E dX12_house_76 1 rfl ?_
      refine gf_X12_0 E (by decide) (by decide) wm_481 dX12_house_77 ?_
      refine y_iload_n E dX12_house_80 2 rfl ?_
      obtain ⟨hi, hv⟩ := hv
      refine y_iald E (Nat.lt_of_lt_of_le (show 1 < 2 by decide) (by decide)) (mc_m_sets (by decide) (by decide)) hi dX12_house_81 ?_
      refine y_iconst (v := 1) E dX12_house_82 (by decide) ?_
      refine y_iload_n E dX12_house_83 3 rfl ?_
      refine y_ishl E dX12_house_84 ?_
      refine y_ior E dX12_house_85 ?_
      refine y_goto (tgt := 101) E dX12_house_86 (by decide) ?_
      obtain ⟨hi, hv⟩ := hv
      refine y_iast E (Nat.lt_of_lt_of_le (show 1 < 2 by decide) (by decide)) (fun _ => mc_m_sets (by decide) (by decide)) hi dX12_house_101 ?_
      refine y_nmH (fun u20 hu20 => ?_)
      replace hv := hv u20 hu20
      refine y_iload E dX12_house_102 0 rfl ?_
      exact y_iret E dX12_house_104 hv
  have hb50 : ∀ (σ : Hp) (l1 : Int32) (l2 : Int32) (l3 : Int32), VX12_house_b50 K σ l1 l2 l3 → YY p l e (yRm 3) s m [.ref (w.1 0), .int a1, .int a2, .int a3].toArray below meth c w mcf 20 A (MQ below (yQi w mcf 20 K A) [.ref (w.1 0), .int a1, .int a2, .int a3].toArray s 0 0 A) 5 σ 50 [(0, .ref (w.1 0)), (1, .int l1), (2, .int l2), (3, .int l3)] [] := by
    intro σ l1 l2 l3 hv
    unfold VX12_house_b50 at hv
    refine y_aload_n E dX12_house_50 0 rfl ?_
    refine y_iload_n E dX12_house_51 1 rfl ?_
    refine y_iload_n E dX12_house_52 2 rfl ?_
    refine y_calli E (y_runV E (rest := []) (kX12_has l w E.2.2.1 σ l1 l2 _ hv) (y_cwV 2 E.1.2.2.2.2 wm_483 wm_484 wm_485 wm_479 wm_486 (by decide +kernel) (yRm_le (by decide) (by decide))) (Nat.lt_of_lt_of_le (show 0 < 1 by decide) (by decide)) (mc_X12 (by decide) (by decide)) rfl rfl rfl (Nat.le_of_ble_eq_true rfl) dX12_house_53) (fun v15 u16 hk => ?_)
    clear hv
    have hv := hk
    clear hk
    refine y_if_eq (tgt := 63) E dX12_house_56 (by decide) (fun c17 => ?_) (fun c17 => ?_)
    · replace hv := ite_t hv c17
      refine y_iconst (v := 0) E dX12_house_63 (by decide) ?_
      exact hb64 u16 l1 l2 l3 0 hv
    · replace hv := ite_f hv c17
      refine y_iconst (v := 1) E dX12_house_59 (by decide) ?_
      refine y_goto (tgt := 64) E dX12_house_60 (by decide) ?_
      exact hb64 u16 l1 l2 l3 1 hv
  refine y_iload_n E dX12_house_0 1 rfl ?_
  refine y_iconst (v := 0) E dX12_house_1 (by decide) ?_
  refine y_iconst (v := 2) E dX12_house_2 (by decide) ?_
  refine y_calli E (y_runS E (rest := []) (kX12_in l w E.2.2.1 σ a1 0 2 _ hv) (y_cwS 3 E.1.2.2.2.2 wm_477 wm_478 wm_479 wm_480 (by decide +kernel) (yRm_le (by decide) (by decide))) rfl rfl (Nat.le_of_ble_eq_true rfl) dX12_house_3) (fun v1 u2 hk => ?_)
  clear hv
  have hv := hk
  clear hk
  refine y_if_ne (tgt := 11) E dX12_house_6 (by decide) (fun c3 => ?_) (fun c3 => ?_)
  · replace hv := ite_f hv c3
    refine y_iload_n E dX12_house_11 2 rfl ?_
    refine y_calli E (y_runS E (rest := []) (kX12_isCell l w E.2.2.1 u2 a2 _ hv) (y_cwS 1 E.1.2.2.2.2 wm_482 wm_487 wm_479 wm_488 (by decide +kernel) (yRm_le (by decide) (by decide))) rfl rfl (Nat.le_of_ble_eq_true rfl) dX12_house_12) (fun v4 u5 hk => ?_)
    clear hv
    have hv := hk
    clear hk
    refine y_if_eq (tgt := 27) E dX12_house_15 (by decide) (fun c6 => ?_) (fun c6 => ?_)
    · replace hv := ite_t hv c6
      refine y_bipush (v := (-2)) E dX12_house_27 (by decide) ?_
      exact y_iret E dX12_house_29 hv
    · replace hv := ite_f hv c6
      refine y_iload_n E dX12_house_18 3 rfl ?_
      refine y_iconst (v := 0) E dX12_house_19 (by decide) ?_
      refine y_iconst (v := 1) E dX12_house_20 (by decide) ?_
      refine y_calli E (y_runS E (rest := []) (kX12_in l w E.2.2.1 u5 a3 0 1 _ hv) (y_cwS 3 E.1.2.2.2.2 wm_477 wm_478 wm_479 wm_480 (by decide +kernel) (yRm_le (by decide) (by decide))) rfl rfl (Nat.le_of_ble_eq_true rfl) dX12_house_21) (fun v7 u8 hk => ?_)
      clear hv
      have hv := hk
      clear hk
      refine y_if_ne (tgt := 30) E dX12_house_24 (by decide) (fun c9 => ?_) (fun c9 => ?_)
      · replace hv := ite_f hv c9
        refine y_iload_n E dX12_house_30 1 rfl ?_
        refine y_if_ne (tgt := 50) E dX12_house_31 (by decide) (fun c10 => ?_) (fun c10 => ?_)
        · replace hv := ite_f hv c10
          exact hb50 u8 a1 a2 a3 hv
        · replace hv := ite_t hv c10
          refine y_iload_n E dX12_house_34 3 rfl ?_
          refine y_iconst (v := 1) E dX12_house_35 (by decide) ?_
          refine y_icmp_ne (tgt := 50) E dX12_house_36 (by decide) (fun c11 => ?_) (fun c11 => ?_)
          · replace hv := ite_f hv c11
            exact hb50 u8 a1 a2 a3 hv
          · replace hv := ite_t hv c11
            refine y_aload_n E dX12_house_39 0 rfl ?_
            refine y_iload_n E dX12_house_40 2 rfl ?_
            refine y_calli E (y_runV E (rest := []) (kX12_isThere l w E.2.2.1 u8 a2 _ hv) (y_cwV 1 E.1.2.2.2.2 wm_491 wm_492 wm_493 wm_479 wm_494 (by decide +kernel) (yRm_le (by decide) (by decide))) (Nat.lt_of_lt_of_le (show 0 < 1 by decide) (by decide)) (mc_X12 (by decide) (by decide)) rfl rfl rfl (Nat.le_of_ble_eq_true rfl) dX12_house_41) (fun v12 u13 hk => ?_)
            clear hv
            have hv := hk
            clear hk
            refine y_if_eq (tgt := 50) E dX12_house_44 (by decide) (fun c14 => ?_) (fun c14 => ?_)
            · replace hv := ite_t hv c14
              exact hb50 u13 a1 a2 a3 hv
            · replace hv := ite_f hv c14
              refine y_bipush (v := (-3)) E dX12_house_47 (by decide) ?_
              exact y_iret E dX12_house_49 hv
      · replace hv := ite_t hv c9
        refine y_bipush (v := (-2)) E dX12_house_27 (by decide) ?_
        exact y_iret E dX12_house_29 hv
  · replace hv := ite_t hv c3
    refine y_iconst (v := (-1)) E dX12_house_9 (by decide) ?_
    exact y_iret E dX12_house_10 hv
theorem dX12_set_0 : decode cX12_set 0 = .ok (.iload_n 1, 1) := by decide +kernel
theorem dX12_set_1 : decode cX12_set 1 = .ok (.iconst 0, 1) := by decide +kernel
theorem dX12_set_2 : decode cX12_set 2 = .ok (.bipush 99, 2) := by decide +kernel
theorem dX12_set_4 : decode cX12_set 4 = .ok (.invokestatic 75, 3) := by decide +kernel
theorem dX12_set_7 : decode cX12_set 7 = .ok (.ifCond .ne 6, 3) := by decide +kernel
theorem dX12_set_10 : decode cX12_set 10 = .ok (.bipush (-2), 2) := by decide +kernel
theorem dX12_set_12 : decode cX12_set 12 = .ok (.ireturn, 1) := by decide +kernel
theorem dX12_set_13 : decode cX12_set 13 = .ok (.aload_n 0, 1) := by decide +kernel
theorem dX12_set_14 : decode cX12_set 14 = .ok (.getfield 93, 3) := by decide +kernel
theorem dX12_set_17 : decode cX12_set 17 = .ok (.istore_n 2, 1) := by decide +kernel
theorem dX12_set_18 : decode cX12_set 18 = .ok (.aload_n 0, 1) := by decide +kernel
theorem dX12_set_19 : decode cX12_set 19 = .ok (.iload_n 1, 1) := by decide +kernel
theorem dX12_set_20 : decode cX12_set 20 = .ok (.putfield 93, 3) := by decide +kernel
theorem dX12_set_23 : decode cX12_set 23 = .ok (.iload_n 2, 1) := by decide +kernel
theorem dX12_set_24 : decode cX12_set 24 = .ok (.ireturn, 1) := by decide +kernel
set_option maxRecDepth 100000 in
set_option maxHeartbeats 4000000 in
theorem kX12_set (l : Launch) (w : wT) (hw : yOk w 20) (σ : Hp) (a1 : Int32) (K : Int32 → Hp → Prop) (hv : VX12_set K σ a1) : yMet l w mcf 20 yX12_set cX12_set 3 (some .int) 2 [.ref (w.1 0), .int a1] σ (yQi w mcf 20 K) := by
  unfold VX12_set at hv
  refine y_start (lv0 := [(0, .ref (w.1 0)), (1, .int a1)]) (by decide +kernel) (own := RX12) rfl hw (Nat.le_of_ble_eq_true rfl) rfl (fun p e s m below meth c A E => ?_)
  refine y_iload_n E dX12_set_0 1 rfl ?_
  refine y_iconst (v := 0) E dX12_set_1 (by decide) ?_
  refine y_bipush (v := 99) E dX12_set_2 (by decide) ?_
  refine y_calli E (y_runS E (rest := []) (kX12_in l w E.2.2.1 σ a1 0 99 _ hv) (y_cwS 3 E.1.2.2.2.2 wm_477 wm_478 wm_479 wm_480 (by decide +kernel) (yRm_le (by decide) (by decide))) rfl rfl (Nat.le_of_ble_eq_true rfl) dX12_set_4) (fun v1 u2 hk => ?_)
  clear hv
  have hv := hk
  clear hk
  refine y_if_ne (tgt := 13) E dX12_set_7 (by decide) (fun c3 => ?_) (fun c3 => ?_)
  · replace hv := ite_f hv c3
    refine y_aload_n E dX12_set_13 0 rfl ?_
    refine gf_X12_1 E (by decide) (by decide) wm_495 dX12_set_14 ?_
    refine y_nmi (fun x4 hx4 => ?_)
    replace hv := hv x4 hx4
    refine y_istore_n (lv' := [(2, .int x4), (0, .ref (w.1 0)), (1, .int a1)]) E dX12_set_17 (by decide) rfl ?_
    refine y_aload_n E dX12_set_18 1 rfl ?_
    refine y_iload_n E dX12_set_19 2 rfl ?_
    refine pf_X12_1 E (by decide) (by decide) wm_495 dX12_set_20 ?_
    refine y_nmH (fun u5 hu5 => ?_)
    replace hv := hv u5 hu5
    refine y_iload_n E dX12_set_23 0 rfl ?_
    exact y_iret E dX12_set_24 hv
  · replace hv := ite_t hv c3
    refine y_bipush (v := (-2)) E dX12_set_10 (by decide) ?_
    exact y_iret E dX12_set_12 hv
theorem dX12_count_0 : decode cX12_count 0 = .ok (.iload_n 1, 1) := by decide +kernel
theorem dX12_count_1 : decode cX12_count 1 = .ok (.tableswitch 81 0 7 #[47, 52, 52, 52, 61, 66, 71, 76], 47) := by decide +kernel
theorem dX12_count_48 : decode cX12_count 48 = .ok (.aload_n 0, 1) := by decide +kernel
theorem dX12_count_49 : decode cX12_count 49 = .ok (.getfield 87, 3) := by decide +kernel
theorem dX12_count_52 : decode cX12_count 52 = .ok (.ireturn, 1) := by decide +kernel
theorem dX12_count_53 : decode cX12_count 53 = .ok (.aload_n 0, 1) := by decide +kernel
theorem dX12_count_54 : decode cX12_count 54 = .ok (.getfield 7, 3) := by decide +kernel
theorem dX12_count_57 : decode cX12_count 57 = .ok (.iload_n 1, 1) := by decide +kernel
theorem dX12_count_58 : decode cX12_count 58 = .ok (.iconst 1, 1) := by decide +kernel
theorem dX12_count_59 : decode cX12_count 59 = .ok (.isub, 1) := by decide +kernel
theorem dX12_count_60 : decode cX12_count 60 = .ok (.iaload, 1) := by decide +kernel
theorem dX12_count_61 : decode cX12_count 61 = .ok (.ireturn, 1) := by decide +kernel
theorem dX12_count_62 : decode cX12_count 62 = .ok (.aload_n 0, 1) := by decide +kernel
theorem dX12_count_63 : decode cX12_count 63 = .ok (.getfield 93, 3) := by decide +kernel
theorem dX12_count_66 : decode cX12_count 66 = .ok (.ireturn, 1) := by decide +kernel
theorem dX12_count_67 : decode cX12_count 67 = .ok (.aload_n 0, 1) := by decide +kernel
theorem dX12_count_68 : decode cX12_count 68 = .ok (.getfield 96, 3) := by decide +kernel
theorem dX12_count_71 : decode cX12_count 71 = .ok (.ireturn, 1) := by decide +kernel
theorem dX12_count_72 : decode cX12_count 72 = .ok (.aload_n 0, 1) := by decide +kernel
theorem dX12_count_73 : decode cX12_count 73 = .ok (.getfield 99, 3) := by decide +kernel
theorem dX12_count_76 : decode cX12_count 76 = .ok (.ireturn, 1) := by decide +kernel
theorem dX12_count_77 : decode cX12_count 77 = .ok (.aload_n 0, 1) := by decide +kernel
theorem dX12_count_78 : decode cX12_count 78 = .ok (.getfield 67, 3) := by decide +kernel
theorem dX12_count_81 : decode cX12_count 81 = .ok (.ireturn, 1) := by decide +kernel
theorem dX12_count_82 : decode cX12_count 82 = .ok (.bipush (-2), 2) := by decide +kernel
theorem dX12_count_84 : decode cX12_count 84 = .ok (.ireturn, 1) := by decide +kernel
set_option maxRecDepth 100000 in
set_option maxHeartbeats 4000000 in
theorem kX12_count (l : Launch) (w : wT) (hw : yOk w 20) (σ : Hp) (a1 : Int32) (K : Int32 → Hp → Prop) (hv : VX12_count K σ a1) : yMet l w mcf 20 yX12_count cX12_count 2 (some .int) 1 [.ref (w.1 0), .int a1] σ (yQi w mcf 20 K) := by
  unfold VX12_count at hv
  refine y_start (lv0 := [(0, .ref (w.1 0)), (1, .int a1)]) (by decide +kernel) (own := RX12) rfl hw (Nat.le_of_ble_eq_true rfl) rfl (fun p e s m below meth c A E => ?_)
  refine y_iload_n E dX12_count_0 1 rfl ?_
  by_cases c1 : a1 = 0
  · replace hv := ite_t hv c1
    refine y_table1 (tgt := 48) (off := 47) (j := 0) E dX12_count_1 (i32_eq (z := 0) (by decide) c1) (by decide) rfl (by decide) ?_
    refine y_aload_n E dX12_count_48 0 rfl ?_
    refine gf_X12_2 E (by decide) (by decide) wm_489 dX12_count_49 ?_
    exact y_iret E dX12_count_52 hv
  · replace hv := ite_f hv c1
    by_cases c2 : a1 = 1
    · replace hv := ite_t hv c2
      refine y_table1 (tgt := 53) (off := 52) (j := 1) E dX12_count_1 (i32_eq (z := 1) (by decide) c2) (by decide) rfl (by decide) ?_
      refine y_aload_n E dX12_count_53 0 rfl ?_
      refine gf_X12_0 E (by decide) (by decide) wm_481 dX12_count_54 ?_
      refine y_iload_n E dX12_count_57 1 rfl ?_
      refine y_iconst (v := 1) E dX12_count_58 (by decide) ?_
      refine y_isub E dX12_count_59 ?_
      obtain ⟨hi, hv⟩ := hv
      refine y_iald E (Nat.lt_of_lt_of_le (show 1 < 2 by decide) (by decide)) (mc_m_sets (by decide) (by decide)) hi dX12_count_60 ?_
      exact y_iret E dX12_count_61 hv
    · replace hv := ite_f hv c2
      by_cases c3 : a1 = 2
      · replace hv := ite_t hv c3
        refine y_table1 (tgt := 53) (off := 52) (j := 2) E dX12_count_1 (i32_eq (z := 2) (by decide) c3) (by decide) rfl (by decide) ?_
        refine y_aload_n E dX12_count_53 0 rfl ?_
        refine gf_X12_0 E (by decide) (by decide) wm_481 dX12_count_54 ?_
        refine y_iload_n E dX12_count_57 1 rfl ?_
        refine y_iconst (v := 1) E dX12_count_58 (by decide) ?_
        refine y_isub E dX12_count_59 ?_
        obtain ⟨hi, hv⟩ := hv
        refine y_iald E (Nat.lt_of_lt_of_le (show 1 < 2 by decide) (by decide)) (mc_m_sets (by decide) (by decide)) hi dX12_count_60 ?_
        exact y_iret E dX12_count_61 hv
      · replace hv := ite_f hv c3
        by_cases c4 : a1 = 3
        · replace hv := ite_t hv c4
          refine y_table1 (tgt := 53) (off := 52) (j := 3) E dX12_count_1 (i32_eq (z := 3) (by decide) c4) (by decide) rfl (by decide) ?_
          refine y_aload_n E dX12_count_53 0 rfl ?_
          refine gf_X12_0 E (by decide) (by decide) wm_481 dX12_count_54 ?_
          refine y_iload_n E dX12_count_57 1 rfl ?_
          refine y_iconst (v := 1) E dX12_count_58 (by decide) ?_
          refine y_isub E dX12_count_59 ?_
          obtain ⟨hi, hv⟩ := hv
          refine y_iald E (Nat.lt_of_lt_of_le (show 1 < 2 by decide) (by decide)) (mc_m_sets (by decide) (by decide)) hi dX12_count_60 ?_
          exact y_iret E dX12_count_61 hv
        · replace hv := ite_f hv c4
          by_cases c5 : a1 = 4
          · replace hv := ite_t hv c5
            refine y_table1 (tgt := 62) (off := 61) (j := 4) E dX12_count_1 (i32_eq (z := 4) (by decide) c5) (by decide) rfl (by decide) ?_
            refine y_aload_n E dX12_count_62 0 rfl ?_
            refine gf_X12_1 E (by decide) (by decide) wm_495 dX12_count_63 ?_
            exact y_iret E dX12_count_66 hv
          · replace hv := ite_f hv c5
            by_cases c6 : a1 = 5
            · replace hv := ite_t hv c6
              refine y_table1 (tgt := 67) (off := 66) (j := 5) E dX12_count_1 (i32_eq (z := 5) (by decide) c6) (by decide) rfl (by decide) ?_
              refine y_aload_n E dX12_count_67 0 rfl ?_
              refine gf_X12_11 E (by decide) (by decide) wm_496 dX12_count_68 ?_
              exact y_iret E dX12_count_71 hv
            · replace hv := ite_f hv c6
              by_cases c7 : a1 = 6
              · replace hv := ite_t hv c7
                refine y_table1 (tgt := 72) (off := 71) (j := 6) E dX12_count_1 (i32_eq (z := 6) (by decide) c7) (by decide) rfl (by decide) ?_
                refine y_aload_n E dX12_count_72 0 rfl ?_
                refine gf_X12_12 E (by decide) (by decide) wm_497 dX12_count_73 ?_
                exact y_iret E dX12_count_76 hv
              · replace hv := ite_f hv c7
                by_cases c8 : a1 = 7
                · replace hv := ite_t hv c8
                  refine y_table1 (tgt := 77) (off := 76) (j := 7) E dX12_count_1 (i32_eq (z := 7) (by decide) c8) (by decide) rfl (by decide) ?_
                  refine y_aload_n E dX12_count_77 0 rfl ?_
                  refine gf_X12_8 E (by decide) (by decide) wm_498 dX12_count_78 ?_
                  exact y_iret E dX12_count_81 hv
                · replace hv := ite_f hv c8
                  refine y_table0 (tgt := 82) E dX12_count_1 (by decide) (fun j hj => ?_) (by decide) ?_
                  · match j, hj with
                    | 0, _ => exact Or.inr (i32_ne (z := 0 + ((0 : Nat) : Int)) (by decide) c1)
                    | 1, _ => exact Or.inr (i32_ne (z := 0 + ((1 : Nat) : Int)) (by decide) c2)
                    | 2, _ => exact Or.inr (i32_ne (z := 0 + ((2 : Nat) : Int)) (by decide) c3)
                    | 3, _ => exact Or.inr (i32_ne (z := 0 + ((3 : Nat) : Int)) (by decide) c4)
                    | 4, _ => exact Or.inr (i32_ne (z := 0 + ((4 : Nat) : Int)) (by decide) c5)
                    | 5, _ => exact Or.inr (i32_ne (z := 0 + ((5 : Nat) : Int)) (by decide) c6)
                    | 6, _ => exact Or.inr (i32_ne (z := 0 + ((6 : Nat) : Int)) (by decide) c7)
                    | 7, _ => exact Or.inr (i32_ne (z := 0 + ((7 : Nat) : Int)) (by decide) c8)
                    | j + 8, hj => exact absurd hj (by simp)
                  · refine y_bipush (v := (-2)) E dX12_count_82 (by decide) ?_
                    exact y_iret E dX12_count_84 hv
theorem dX12_isByte_0 : decode cX12_isByte 0 = .ok (.iload_n 0, 1) := by decide +kernel
theorem dX12_isByte_1 : decode cX12_isByte 1 = .ok (.iconst 0, 1) := by decide +kernel
theorem dX12_isByte_2 : decode cX12_isByte 2 = .ok (.sipush 255, 3) := by decide +kernel
theorem dX12_isByte_5 : decode cX12_isByte 5 = .ok (.invokestatic 75, 3) := by decide +kernel
theorem dX12_isByte_8 : decode cX12_isByte 8 = .ok (.ireturn, 1) := by decide +kernel
set_option maxRecDepth 100000 in
set_option maxHeartbeats 4000000 in
theorem kX12_isByte (l : Launch) (w : wT) (hw : yOk w 20) (σ : Hp) (a1 : Int32) (K : Int32 → Hp → Prop) (hv : VX12_isByte K σ a1) : yMet l w mcf 20 yX12_isByte cX12_isByte 1 (some .boolean) 2 [.int a1] σ (yQi w mcf 20 K) := by
  unfold VX12_isByte at hv
  refine y_start (lv0 := [(0, .int a1)]) (by decide +kernel) (own := RX12) rfl hw (Nat.le_of_ble_eq_true rfl) rfl (fun p e s m below meth c A E => ?_)
  refine y_iload_n E dX12_isByte_0 0 rfl ?_
  refine y_iconst (v := 0) E dX12_isByte_1 (by decide) ?_
  refine y_sipush (v := 255) E dX12_isByte_2 (by decide) ?_
  refine y_calli E (y_runS E (rest := []) (kX12_in l w E.2.2.1 σ a1 0 255 _ hv) (y_cwS 3 E.1.2.2.2.2 wm_477 wm_478 wm_479 wm_480 (by decide +kernel) (yRm_le (by decide) (by decide))) rfl rfl (Nat.le_of_ble_eq_true rfl) dX12_isByte_5) (fun v1 u2 hk => ?_)
  clear hv
  have hv := hk
  clear hk
  exact y_nret E dX12_isByte_8 (nar01 hv.1) hv.2
theorem dX12_feed_0 : decode cX12_feed 0 = .ok (.iload_n 1, 1) := by decide +kernel
theorem dX12_feed_1 : decode cX12_feed 1 = .ok (.iconst 1, 1) := by decide +kernel
theorem dX12_feed_2 : decode cX12_feed 2 = .ok (.iconst 5, 1) := by decide +kernel
theorem dX12_feed_3 : decode cX12_feed 3 = .ok (.invokestatic 75, 3) := by decide +kernel
theorem dX12_feed_6 : decode cX12_feed 6 = .ok (.ifCond .eq 41, 3) := by decide +kernel
theorem dX12_feed_9 : decode cX12_feed 9 = .ok (.iload_n 2, 1) := by decide +kernel
theorem dX12_feed_10 : decode cX12_feed 10 = .ok (.invokestatic 102, 3) := by decide +kernel
theorem dX12_feed_13 : decode cX12_feed 13 = .ok (.ifCond .eq 34, 3) := by decide +kernel
theorem dX12_feed_16 : decode cX12_feed 16 = .ok (.iload_n 3, 1) := by decide +kernel
theorem dX12_feed_17 : decode cX12_feed 17 = .ok (.invokestatic 102, 3) := by decide +kernel
theorem dX12_feed_20 : decode cX12_feed 20 = .ok (.ifCond .eq 27, 3) := by decide +kernel
theorem dX12_feed_23 : decode cX12_feed 23 = .ok (.iload 4, 2) := by decide +kernel
theorem dX12_feed_25 : decode cX12_feed 25 = .ok (.invokestatic 102, 3) := by decide +kernel
theorem dX12_feed_28 : decode cX12_feed 28 = .ok (.ifCond .eq 19, 3) := by decide +kernel
theorem dX12_feed_31 : decode cX12_feed 31 = .ok (.iload 5, 2) := by decide +kernel
theorem dX12_feed_33 : decode cX12_feed 33 = .ok (.invokestatic 102, 3) := by decide +kernel
theorem dX12_feed_36 : decode cX12_feed 36 = .ok (.ifCond .eq 11, 3) := by decide +kernel
theorem dX12_feed_39 : decode cX12_feed 39 = .ok (.iload 6, 2) := by decide +kernel
theorem dX12_feed_41 : decode cX12_feed 41 = .ok (.invokestatic 102, 3) := by decide +kernel
theorem dX12_feed_44 : decode cX12_feed 44 = .ok (.ifCond .ne 6, 3) := by decide +kernel
theorem dX12_feed_47 : decode cX12_feed 47 = .ok (.bipush (-2), 2) := by decide +kernel
theorem dX12_feed_49 : decode cX12_feed 49 = .ok (.ireturn, 1) := by decide +kernel
theorem dX12_feed_50 : decode cX12_feed 50 = .ok (.aload_n 0, 1) := by decide +kernel
theorem dX12_feed_51 : decode cX12_feed 51 = .ok (.getfield 67, 3) := by decide +kernel
theorem dX12_feed_54 : decode cX12_feed 54 = .ok (.iload_n 1, 1) := by decide +kernel
theorem dX12_feed_55 : decode cX12_feed 55 = .ok (.iadd, 1) := by decide +kernel
theorem dX12_feed_56 : decode cX12_feed 56 = .ok (.sipush 160, 3) := by decide +kernel
theorem dX12_feed_59 : decode cX12_feed 59 = .ok (.if_icmp .le 6, 3) := by decide +kernel
theorem dX12_feed_62 : decode cX12_feed 62 = .ok (.bipush (-4), 2) := by decide +kernel
theorem dX12_feed_64 : decode cX12_feed 64 = .ok (.ireturn, 1) := by decide +kernel
theorem dX12_feed_65 : decode cX12_feed 65 = .ok (.iconst 0, 1) := by decide +kernel
theorem dX12_feed_66 : decode cX12_feed 66 = .ok (.istore 7, 2) := by decide +kernel
theorem dX12_feed_68 : decode cX12_feed 68 = .ok (.iload 7, 2) := by decide +kernel
theorem dX12_feed_70 : decode cX12_feed 70 = .ok (.iload_n 1, 1) := by decide +kernel
theorem dX12_feed_71 : decode cX12_feed 71 = .ok (.if_icmp .ge 71, 3) := by decide +kernel
theorem dX12_feed_74 : decode cX12_feed 74 = .ok (.aload_n 0, 1) := by decide +kernel
theorem dX12_feed_75 : decode cX12_feed 75 = .ok (.getfield 25, 3) := by decide +kernel
theorem dX12_feed_78 : decode cX12_feed 78 = .ok (.aload_n 0, 1) := by decide +kernel
theorem dX12_feed_79 : decode cX12_feed 79 = .ok (.getfield 67, 3) := by decide +kernel
theorem dX12_feed_82 : decode cX12_feed 82 = .ok (.iload 7, 2) := by decide +kernel
theorem dX12_feed_84 : decode cX12_feed 84 = .ok (.ifCond .ne 7, 3) := by decide +kernel
theorem dX12_feed_87 : decode cX12_feed 87 = .ok (.iload_n 2, 1) := by decide +kernel
theorem dX12_feed_88 : decode cX12_feed 88 = .ok (.goto 37, 3) := by decide +kernel
theorem dX12_feed_91 : decode cX12_feed 91 = .ok (.iload 7, 2) := by decide +kernel
theorem dX12_feed_93 : decode cX12_feed 93 = .ok (.iconst 1, 1) := by decide +kernel
theorem dX12_feed_94 : decode cX12_feed 94 = .ok (.if_icmp .ne 7, 3) := by decide +kernel
theorem dX12_feed_97 : decode cX12_feed 97 = .ok (.iload_n 3, 1) := by decide +kernel
theorem dX12_feed_98 : decode cX12_feed 98 = .ok (.goto 27, 3) := by decide +kernel
theorem dX12_feed_101 : decode cX12_feed 101 = .ok (.iload 7, 2) := by decide +kernel
theorem dX12_feed_103 : decode cX12_feed 103 = .ok (.iconst 2, 1) := by decide +kernel
theorem dX12_feed_104 : decode cX12_feed 104 = .ok (.if_icmp .ne 8, 3) := by decide +kernel
theorem dX12_feed_107 : decode cX12_feed 107 = .ok (.iload 4, 2) := by decide +kernel
theorem dX12_feed_109 : decode cX12_feed 109 = .ok (.goto 16, 3) := by decide +kernel
theorem dX12_feed_112 : decode cX12_feed 112 = .ok (.iload 7, 2) := by decide +kernel
theorem dX12_feed_114 : decode cX12_feed 114 = .ok (.iconst 3, 1) := by decide +kernel
theorem dX12_feed_115 : decode cX12_feed 115 = .ok (.if_icmp .ne 8, 3) := by decide +kernel
theorem dX12_feed_118 : decode cX12_feed 118 = .ok (.iload 5, 2) := by decide +kernel
theorem dX12_feed_120 : decode cX12_feed 120 = .ok (.goto 5, 3) := by decide +kernel
theorem dX12_feed_123 : decode cX12_feed 123 = .ok (.iload 6, 2) := by decide +kernel
theorem dX12_feed_125 : decode cX12_feed 125 = .ok (.iastore, 1) := by decide +kernel
theorem dX12_feed_126 : decode cX12_feed 126 = .ok (.aload_n 0, 1) := by decide +kernel
theorem dX12_feed_127 : decode cX12_feed 127 = .ok (.dup, 1) := by decide +kernel
theorem dX12_feed_128 : decode cX12_feed 128 = .ok (.getfield 67, 3) := by decide +kernel
theorem dX12_feed_131 : decode cX12_feed 131 = .ok (.iconst 1, 1) := by decide +kernel
theorem dX12_feed_132 : decode cX12_feed 132 = .ok (.iadd, 1) := by decide +kernel
theorem dX12_feed_133 : decode cX12_feed 133 = .ok (.putfield 67, 3) := by decide +kernel
theorem dX12_feed_136 : decode cX12_feed 136 = .ok (.iinc 7 1, 3) := by decide +kernel
theorem dX12_feed_139 : decode cX12_feed 139 = .ok (.goto (-71), 3) := by decide +kernel
theorem dX12_feed_142 : decode cX12_feed 142 = .ok (.aload_n 0, 1) := by decide +kernel
theorem dX12_feed_143 : decode cX12_feed 143 = .ok (.getfield 67, 3) := by decide +kernel
theorem dX12_feed_146 : decode cX12_feed 146 = .ok (.ireturn, 1) := by decide +kernel
set_option maxRecDepth 100000 in
set_option maxHeartbeats 4000000 in
theorem kX12_feed (l : Launch) (w : wT) (hw : yOk w 20) (σ : Hp) (a1 : Int32) (a2 : Int32) (a3 : Int32) (a4 : Int32) (a5 : Int32) (a6 : Int32) (K : Int32 → Hp → Prop) (hv : VX12_feed K σ a1 a2 a3 a4 a5 a6) : yMet l w mcf 20 yX12_feed cX12_feed 8 (some .int) 3 [.ref (w.1 0), .int a1, .int a2, .int a3, .int a4, .int a5, .int a6] σ (yQi w mcf 20 K) := by
  unfold VX12_feed at hv
  refine y_start (lv0 := [(0, .ref (w.1 0)), (1, .int a1), (2, .int a2), (3, .int a3), (4, .int a4), (5, .int a5), (6, .int a6)]) (by decide +kernel) (own := RX12) rfl hw (Nat.le_of_ble_eq_true rfl) rfl (fun p e s m below meth c A E => ?_)
  have hL68 : ∀ (n68 : Nat) (σ : Hp) (l1 : Int32) (l2 : Int32) (l3 : Int32) (l4 : Int32) (l5 : Int32) (l6 : Int32) (l7 : Int32), VX12_feed_L68 K n68 σ l1 l2 l3 l4 l5 l6 l7 → YY p l e (yRm 3) s m [.ref (w.1 0), .int a1, .int a2, .int a3, .int a4, .int a5, .int a6].toArray below meth c w mcf 20 A (MQ below (yQi w mcf 20 K A) [.ref (w.1 0), .int a1, .int a2, .int a3, .int a4, .int a5, .int a6].toArray s 0 0 A) 8 σ 68 [(0, .ref (w.1 0)), (1, .int l1), (2, .int l2), (3, .int l3), (4, .int l4), (5, .int l5), (6, .int l6), (7, .int l7)] [] := by
    intro n68
    induction n68 with
    | zero => exact fun _ _ _ _ _ _ _ _ hv => (by unfold VX12_feed_L68 at hv; exact hv.elim)
    | succ n68 ih68 =>
      have hb125 : ∀ (σ : Hp) (l1 : Int32) (l2 : Int32) (l3 : Int32) (l4 : Int32) (l5 : Int32) (l6 : Int32) (l7 : Int32) (s0 : Int32) (s1 : Int32), VX12_feed_b125 K (VX12_feed_L68 K n68) σ l1 l2 l3 l4 l5 l6 l7 s0 s1 → YY p l e (yRm 3) s m [.ref (w.1 0), .int a1, .int a2, .int a3, .int a4, .int a5, .int a6].toArray below meth c w mcf 20 A (MQ below (yQi w mcf 20 K A) [.ref (w.1 0), .int a1, .int a2, .int a3, .int a4, .int a5, .int a6].toArray s 0 0 A) 8 σ 125 [(0, .ref (w.1 0)), (1, .int l1), (2, .int l2), (3, .int l3), (4, .int l4), (5, .int l5), (6, .int l6), (7, .int l7)] [.int s0, .int s1, .ref (w.1 6)] := by
        intro σ l1 l2 l3 l4 l5 l6 l7 s0 s1 hv
        unfold VX12_feed_b125 at hv
        obtain ⟨hi, hv⟩ := hv
        refine y_iast E (Nat.lt_of_lt_of_le (show 6 < 7 by decide) (by decide)) (fun _ => mc_m_tape (by decide) (by decide)) hi dX12_feed_125 ?_
        refine y_nmH (fun u25 hu25 => ?_)
        replace hv := hv u25 hu25
        refine y_aload_n E dX12_feed_126 0 rfl ?_
        refine y_dup E dX12_feed_127 rfl ?_
        refine gf_X12_8 E (by decide) (by decide) wm_498 dX12_feed_128 ?_
        refine y_iconst (v := 1) E dX12_feed_131 (by decide) ?_
        refine y_iadd E dX12_feed_132 ?_
        refine pf_X12_8 E (by decide) (by decide) wm_498 dX12_feed_133 ?_
        refine y_nmH (fun u26 hu26 => ?_)
        replace hv := hv u26 hu26
        obtain ⟨x27, hx27⟩ : ∃ z : Int32, z = l7 + 1 := ⟨_, rfl⟩
        replace hv := hv x27 hx27
        refine y_iinc (v := x27) (lv' := [(7, .int x27), (0, .ref (w.1 0)), (1, .int l1), (2, .int l2), (3, .int l3), (4, .int l4), (5, .int l5), (6, .int l6)]) E dX12_feed_136 7 rfl (by rw [hx27]; rfl) (by decide) rfl ?_
        refine y_goto (tgt := 68) E dX12_feed_139 (by decide) ?_
        refine y_lv (lv' := [(0, .ref (w.1 0)), (1, .int l1), (2, .int l2), (3, .int l3), (4, .int l4), (5, .int l5), (6, .int l6), (7, .int x27)]) [1, 2, 3, 4, 5, 6, 7, 0] rfl ?_
        exact ih68 u26 l1 l2 l3 l4 l5 l6 x27 hv
      intro σ l1 l2 l3 l4 l5 l6 l7 hv
      unfold VX12_feed_L68 at hv
      refine y_iload E dX12_feed_68 7 rfl ?_
      refine y_iload_n E dX12_feed_70 1 rfl ?_
      refine y_icmp_ge (tgt := 142) E dX12_feed_71 (by decide) (fun c20 => ?_) (fun c20 => ?_)
      · replace hv := ite_t hv c20
        refine y_aload_n E dX12_feed_142 0 rfl ?_
        refine gf_X12_8 E (by decide) (by decide) wm_498 dX12_feed_143 ?_
        exact y_iret E dX12_feed_146 hv
      · replace hv := ite_f hv c20
        refine y_aload_n E dX12_feed_74 0 rfl ?_
        refine gf_X12_7 E (by decide) (by decide) wm_502 dX12_feed_75 ?_
        refine y_aload_n E dX12_feed_78 0 rfl ?_
        refine gf_X12_8 E (by decide) (by decide) wm_498 dX12_feed_79 ?_
        refine y_iload E dX12_feed_82 7 rfl ?_
        refine y_if_ne (tgt := 91) E dX12_feed_84 (by decide) (fun c21 => ?_) (fun c21 => ?_)
        · replace hv := ite_f hv c21
          refine y_iload E dX12_feed_91 7 rfl ?_
          refine y_iconst (v := 1) E dX12_feed_93 (by decide) ?_
          refine y_icmp_ne (tgt := 101) E dX12_feed_94 (by decide) (fun c22 => ?_) (fun c22 => ?_)
          · replace hv := ite_f hv c22
            refine y_iload E dX12_feed_101 7 rfl ?_
            refine y_iconst (v := 2) E dX12_feed_103 (by decide) ?_
            refine y_icmp_ne (tgt := 112) E dX12_feed_104 (by decide) (fun c23 => ?_) (fun c23 => ?_)
            · replace hv := ite_f hv c23
              refine y_iload E dX12_feed_112 7 rfl ?_
              refine y_iconst (v := 3) E dX12_feed_114 (by decide) ?_
              refine y_icmp_ne (tgt := 123) E dX12_feed_115 (by decide) (fun c24 => ?_) (fun c24 => ?_)
              · replace hv := ite_f hv c24
                refine y_iload E dX12_feed_123 6 rfl ?_
                exact hb125 σ l1 l2 l3 l4 l5 l6 l7 l6 (σ 0 8) hv
              · replace hv := ite_t hv c24
                refine y_iload E dX12_feed_118 5 rfl ?_
                refine y_goto (tgt := 125) E dX12_feed_120 (by decide) ?_
                exact hb125 σ l1 l2 l3 l4 l5 l6 l7 l5 (σ 0 8) hv
            · replace hv := ite_t hv c23
              refine y_iload E dX12_feed_107 4 rfl ?_
              refine y_goto (tgt := 125) E dX12_feed_109 (by decide) ?_
              exact hb125 σ l1 l2 l3 l4 l5 l6 l7 l4 (σ 0 8) hv
          · replace hv := ite_t hv c22
            refine y_iload_n E dX12_feed_97 3 rfl ?_
            refine y_goto (tgt := 125) E dX12_feed_98 (by decide) ?_
            exact hb125 σ l1 l2 l3 l4 l5 l6 l7 l3 (σ 0 8) hv
        · replace hv := ite_t hv c21
          refine y_iload_n E dX12_feed_87 2 rfl ?_
          refine y_goto (tgt := 125) E dX12_feed_88 (by decide) ?_
          exact hb125 σ l1 l2 l3 l4 l5 l6 l7 l2 (σ 0 8) hv
  refine y_iload_n E dX12_feed_0 1 rfl ?_
  refine y_iconst (v := 1) E dX12_feed_1 (by decide) ?_
  refine y_iconst (v := 5) E dX12_feed_2 (by decide) ?_
  refine y_calli E (y_runS E (rest := []) (kX12_in l w E.2.2.1 σ a1 1 5 _ hv) (y_cwS 3 E.1.2.2.2.2 wm_477 wm_478 wm_479 wm_480 (by decide +kernel) (yRm_le (by decide) (by decide))) rfl rfl (Nat.le_of_ble_eq_true rfl) dX12_feed_3) (fun v1 u2 hk => ?_)
  clear hv
  have hv := hk
  clear hk
  refine y_if_eq (tgt := 47) E dX12_feed_6 (by decide) (fun c3 => ?_) (fun c3 => ?_)
  · replace hv := ite_t hv c3
    refine y_bipush (v := (-2)) E dX12_feed_47 (by decide) ?_
    exact y_iret E dX12_feed_49 hv
  · replace hv := ite_f hv c3
    refine y_iload_n E dX12_feed_9 2 rfl ?_
    refine y_calli E (y_runS E (rest := []) (kX12_isByte l w E.2.2.1 u2 a2 _ hv) (y_cwS 1 E.1.2.2.2.2 wm_499 wm_500 wm_479 wm_501 (by decide +kernel) (yRm_le (by decide) (by decide))) rfl rfl (Nat.le_of_ble_eq_true rfl) dX12_feed_10) (fun v4 u5 hk => ?_)
    clear hv
    have hv := hk
    clear hk
    refine y_if_eq (tgt := 47) E dX12_feed_13 (by decide) (fun c6 => ?_) (fun c6 => ?_)
    · replace hv := ite_t hv c6
      refine y_bipush (v := (-2)) E dX12_feed_47 (by decide) ?_
      exact y_iret E dX12_feed_49 hv
    · replace hv := ite_f hv c6
      refine y_iload_n E dX12_feed_16 3 rfl ?_
      refine y_calli E (y_runS E (rest := []) (kX12_isByte l w E.2.2.1 u5 a3 _ hv) (y_cwS 1 E.1.2.2.2.2 wm_499 wm_500 wm_479 wm_501 (by decide +kernel) (yRm_le (by decide) (by decide))) rfl rfl (Nat.le_of_ble_eq_true rfl) dX12_feed_17) (fun v7 u8 hk => ?_)
      clear hv
      have hv := hk
      clear hk
      refine y_if_eq (tgt := 47) E dX12_feed_20 (by decide) (fun c9 => ?_) (fun c9 => ?_)
      · replace hv := ite_t hv c9
        refine y_bipush (v := (-2)) E dX12_feed_47 (by decide) ?_
        exact y_iret E dX12_feed_49 hv
      · replace hv := ite_f hv c9
        refine y_iload E dX12_feed_23 4 rfl ?_
        refine y_calli E (y_runS E (rest := []) (kX12_isByte l w E.2.2.1 u8 a4 _ hv) (y_cwS 1 E.1.2.2.2.2 wm_499 wm_500 wm_479 wm_501 (by decide +kernel) (yRm_le (by decide) (by decide))) rfl rfl (Nat.le_of_ble_eq_true rfl) dX12_feed_25) (fun v10 u11 hk => ?_)
        clear hv
        have hv := hk
        clear hk
        refine y_if_eq (tgt := 47) E dX12_feed_28 (by decide) (fun c12 => ?_) (fun c12 => ?_)
        · replace hv := ite_t hv c12
          refine y_bipush (v := (-2)) E dX12_feed_47 (by decide) ?_
          exact y_iret E dX12_feed_49 hv
        · replace hv := ite_f hv c12
          refine y_iload E dX12_feed_31 5 rfl ?_
          refine y_calli E (y_runS E (rest := []) (kX12_isByte l w E.2.2.1 u11 a5 _ hv) (y_cwS 1 E.1.2.2.2.2 wm_499 wm_500 wm_479 wm_501 (by decide +kernel) (yRm_le (by decide) (by decide))) rfl rfl (Nat.le_of_ble_eq_true rfl) dX12_feed_33) (fun v13 u14 hk => ?_)
          clear hv
          have hv := hk
          clear hk
          refine y_if_eq (tgt := 47) E dX12_feed_36 (by decide) (fun c15 => ?_) (fun c15 => ?_)
          · replace hv := ite_t hv c15
            refine y_bipush (v := (-2)) E dX12_feed_47 (by decide) ?_
            exact y_iret E dX12_feed_49 hv
          · replace hv := ite_f hv c15
            refine y_iload E dX12_feed_39 6 rfl ?_
            refine y_calli E (y_runS E (rest := []) (kX12_isByte l w E.2.2.1 u14 a6 _ hv) (y_cwS 1 E.1.2.2.2.2 wm_499 wm_500 wm_479 wm_501 (by decide +kernel) (yRm_le (by decide) (by decide))) rfl rfl (Nat.le_of_ble_eq_true rfl) dX12_feed_41) (fun v16 u17 hk => ?_)
            clear hv
            have hv := hk
            clear hk
            refine y_if_ne (tgt := 50) E dX12_feed_44 (by decide) (fun c18 => ?_) (fun c18 => ?_)
            · replace hv := ite_f hv c18
              refine y_aload_n E dX12_feed_50 0 rfl ?_
              refine gf_X12_8 E (by decide) (by decide) wm_498 dX12_feed_51 ?_
              refine y_iload_n E dX12_feed_54 1 rfl ?_
              refine y_iadd E dX12_feed_55 ?_
              refine y_sipush (v := 160) E dX12_feed_56 (by decide) ?_
              refine y_icmp_le (tgt := 65) E dX12_feed_59 (by decide) (fun c19 => ?_) (fun c19 => ?_)
              · replace hv := ite_t hv c19
                refine y_iconst (v := 0) E dX12_feed_65 (by decide) ?_
                refine y_istore (lv' := [(7, .int 0), (0, .ref (w.1 0)), (1, .int a1), (2, .int a2), (3, .int a3), (4, .int a4), (5, .int a5), (6, .int a6)]) E dX12_feed_66 (by decide) rfl ?_
                refine y_lv (lv' := [(0, .ref (w.1 0)), (1, .int a1), (2, .int a2), (3, .int a3), (4, .int a4), (5, .int a5), (6, .int a6), (7, .int 0)]) [1, 2, 3, 4, 5, 6, 7, 0] rfl ?_
                obtain ⟨n0, hv⟩ := hv
                exact hL68 n0 u17 a1 a2 a3 a4 a5 a6 0 hv
              · replace hv := ite_f hv c19
                refine y_bipush (v := (-4)) E dX12_feed_62 (by decide) ?_
                exact y_iret E dX12_feed_64 hv
            · replace hv := ite_t hv c18
              refine y_bipush (v := (-2)) E dX12_feed_47 (by decide) ?_
              exact y_iret E dX12_feed_49 hv
theorem dX12_wordFrom_0 : decode cX12_wordFrom 0 = .ok (.iconst 0, 1) := by decide +kernel
theorem dX12_wordFrom_1 : decode cX12_wordFrom 1 = .ok (.istore_n 3, 1) := by decide +kernel
theorem dX12_wordFrom_2 : decode cX12_wordFrom 2 = .ok (.iload_n 3, 1) := by decide +kernel
theorem dX12_wordFrom_3 : decode cX12_wordFrom 3 = .ok (.bipush 12, 2) := by decide +kernel
theorem dX12_wordFrom_5 : decode cX12_wordFrom 5 = .ok (.if_icmp .ge 96, 3) := by decide +kernel
theorem dX12_wordFrom_8 : decode cX12_wordFrom 8 = .ok (.iload_n 2, 1) := by decide +kernel
theorem dX12_wordFrom_9 : decode cX12_wordFrom 9 = .ok (.iload_n 1, 1) := by decide +kernel
theorem dX12_wordFrom_10 : decode cX12_wordFrom 10 = .ok (.isub, 1) := by decide +kernel
theorem dX12_wordFrom_11 : decode cX12_wordFrom 11 = .ok (.bipush 8, 2) := by decide +kernel
theorem dX12_wordFrom_13 : decode cX12_wordFrom 13 = .ok (.if_icmp .gt 7, 3) := by decide +kernel
theorem dX12_wordFrom_16 : decode cX12_wordFrom 16 = .ok (.iconst 1, 1) := by decide +kernel
theorem dX12_wordFrom_17 : decode cX12_wordFrom 17 = .ok (.goto 4, 3) := by decide +kernel
theorem dX12_wordFrom_20 : decode cX12_wordFrom 20 = .ok (.iconst 0, 1) := by decide +kernel
theorem dX12_wordFrom_21 : decode cX12_wordFrom 21 = .ok (.istore 4, 2) := by decide +kernel
theorem dX12_wordFrom_23 : decode cX12_wordFrom 23 = .ok (.iconst 0, 1) := by decide +kernel
theorem dX12_wordFrom_24 : decode cX12_wordFrom 24 = .ok (.istore 5, 2) := by decide +kernel
theorem dX12_wordFrom_26 : decode cX12_wordFrom 26 = .ok (.iload 5, 2) := by decide +kernel
theorem dX12_wordFrom_28 : decode cX12_wordFrom 28 = .ok (.bipush 8, 2) := by decide +kernel
theorem dX12_wordFrom_30 : decode cX12_wordFrom 30 = .ok (.if_icmp .ge 58, 3) := by decide +kernel
theorem dX12_wordFrom_33 : decode cX12_wordFrom 33 = .ok (.iload 4, 2) := by decide +kernel
theorem dX12_wordFrom_35 : decode cX12_wordFrom 35 = .ok (.ifCond .eq 53, 3) := by decide +kernel
theorem dX12_wordFrom_38 : decode cX12_wordFrom 38 = .ok (.aload_n 0, 1) := by decide +kernel
theorem dX12_wordFrom_39 : decode cX12_wordFrom 39 = .ok (.getfield 49, 3) := by decide +kernel
theorem dX12_wordFrom_42 : decode cX12_wordFrom 42 = .ok (.bipush 8, 2) := by decide +kernel
theorem dX12_wordFrom_44 : decode cX12_wordFrom 44 = .ok (.iload_n 3, 1) := by decide +kernel
theorem dX12_wordFrom_45 : decode cX12_wordFrom 45 = .ok (.imul, 1) := by decide +kernel
theorem dX12_wordFrom_46 : decode cX12_wordFrom 46 = .ok (.iload 5, 2) := by decide +kernel
theorem dX12_wordFrom_48 : decode cX12_wordFrom 48 = .ok (.iadd, 1) := by decide +kernel
theorem dX12_wordFrom_49 : decode cX12_wordFrom 49 = .ok (.iaload, 1) := by decide +kernel
theorem dX12_wordFrom_50 : decode cX12_wordFrom 50 = .ok (.iload_n 1, 1) := by decide +kernel
theorem dX12_wordFrom_51 : decode cX12_wordFrom 51 = .ok (.iload 5, 2) := by decide +kernel
theorem dX12_wordFrom_53 : decode cX12_wordFrom 53 = .ok (.iadd, 1) := by decide +kernel
theorem dX12_wordFrom_54 : decode cX12_wordFrom 54 = .ok (.iload_n 2, 1) := by decide +kernel
theorem dX12_wordFrom_55 : decode cX12_wordFrom 55 = .ok (.if_icmp .ge 15, 3) := by decide +kernel
theorem dX12_wordFrom_58 : decode cX12_wordFrom 58 = .ok (.aload_n 0, 1) := by decide +kernel
theorem dX12_wordFrom_59 : decode cX12_wordFrom 59 = .ok (.getfield 25, 3) := by decide +kernel
theorem dX12_wordFrom_62 : decode cX12_wordFrom 62 = .ok (.iload_n 1, 1) := by decide +kernel
theorem dX12_wordFrom_63 : decode cX12_wordFrom 63 = .ok (.iload 5, 2) := by decide +kernel
theorem dX12_wordFrom_65 : decode cX12_wordFrom 65 = .ok (.iadd, 1) := by decide +kernel
theorem dX12_wordFrom_66 : decode cX12_wordFrom 66 = .ok (.iaload, 1) := by decide +kernel
theorem dX12_wordFrom_67 : decode cX12_wordFrom 67 = .ok (.goto 5, 3) := by decide +kernel
theorem dX12_wordFrom_70 : decode cX12_wordFrom 70 = .ok (.bipush 32, 2) := by decide +kernel
theorem dX12_wordFrom_72 : decode cX12_wordFrom 72 = .ok (.if_icmp .ne 7, 3) := by decide +kernel
theorem dX12_wordFrom_75 : decode cX12_wordFrom 75 = .ok (.iconst 1, 1) := by decide +kernel
theorem dX12_wordFrom_76 : decode cX12_wordFrom 76 = .ok (.goto 4, 3) := by decide +kernel
theorem dX12_wordFrom_79 : decode cX12_wordFrom 79 = .ok (.iconst 0, 1) := by decide +kernel
theorem dX12_wordFrom_80 : decode cX12_wordFrom 80 = .ok (.istore 4, 2) := by decide +kernel
theorem dX12_wordFrom_82 : decode cX12_wordFrom 82 = .ok (.iinc 5 1, 3) := by decide +kernel
theorem dX12_wordFrom_85 : decode cX12_wordFrom 85 = .ok (.goto (-59), 3) := by decide +kernel
theorem dX12_wordFrom_88 : decode cX12_wordFrom 88 = .ok (.iload 4, 2) := by decide +kernel
theorem dX12_wordFrom_90 : decode cX12_wordFrom 90 = .ok (.ifCond .eq 5, 3) := by decide +kernel
theorem dX12_wordFrom_93 : decode cX12_wordFrom 93 = .ok (.iload_n 3, 1) := by decide +kernel
theorem dX12_wordFrom_94 : decode cX12_wordFrom 94 = .ok (.ireturn, 1) := by decide +kernel
theorem dX12_wordFrom_95 : decode cX12_wordFrom 95 = .ok (.iinc 3 1, 3) := by decide +kernel
theorem dX12_wordFrom_98 : decode cX12_wordFrom 98 = .ok (.goto (-96), 3) := by decide +kernel
theorem dX12_wordFrom_101 : decode cX12_wordFrom 101 = .ok (.bipush 12, 2) := by decide +kernel
theorem dX12_wordFrom_103 : decode cX12_wordFrom 103 = .ok (.ireturn, 1) := by decide +kernel
set_option maxRecDepth 100000 in
set_option maxHeartbeats 4000000 in
theorem kX12_wordFrom (l : Launch) (w : wT) (hw : yOk w 20) (σ : Hp) (a1 : Int32) (a2 : Int32) (K : Int32 → Hp → Prop) (hv : VX12_wordFrom K σ a1 a2) : yMet l w mcf 20 yX12_wordFrom cX12_wordFrom 6 (some .int) 1 [.ref (w.1 0), .int a1, .int a2] σ (yQi w mcf 20 K) := by
  unfold VX12_wordFrom at hv
  refine y_start (lv0 := [(0, .ref (w.1 0)), (1, .int a1), (2, .int a2)]) (by decide +kernel) (own := RX12) rfl hw (Nat.le_of_ble_eq_true rfl) rfl (fun p e s m below meth c A E => ?_)
  have hL2 : ∀ (n2 : Nat) (σ : Hp) (l1 : Int32) (l2 : Int32) (l3 : Int32), VX12_wordFrom_L2 K n2 σ l1 l2 l3 → YY p l e (yRm 1) s m [.ref (w.1 0), .int a1, .int a2].toArray below meth c w mcf 20 A (MQ below (yQi w mcf 20 K A) [.ref (w.1 0), .int a1, .int a2].toArray s 0 0 A) 6 σ 2 [(0, .ref (w.1 0)), (1, .int l1), (2, .int l2), (3, .int l3)] [] := by
    intro n2
    induction n2 with
    | zero => exact fun _ _ _ _ hv => (by unfold VX12_wordFrom_L2 at hv; exact hv.elim)
    | succ n2 ih2 =>
      have hb88 : ∀ (σ : Hp) (l1 : Int32) (l2 : Int32) (l3 : Int32) (l4 : Int32), VX12_wordFrom_b88 K (VX12_wordFrom_L2 K n2) σ l1 l2 l3 l4 → YY p l e (yRm 1) s m [.ref (w.1 0), .int a1, .int a2].toArray below meth c w mcf 20 A (MQ below (yQi w mcf 20 K A) [.ref (w.1 0), .int a1, .int a2].toArray s 0 0 A) 6 σ 88 [(0, .ref (w.1 0)), (1, .int l1), (2, .int l2), (3, .int l3), (4, .int l4)] [] := by
        intro σ l1 l2 l3 l4 hv
        unfold VX12_wordFrom_b88 at hv
        refine y_iload E dX12_wordFrom_88 4 rfl ?_
        refine y_if_eq (tgt := 95) E dX12_wordFrom_90 (by decide) (fun c6 => ?_) (fun c6 => ?_)
        · replace hv := ite_t hv c6
          obtain ⟨x7, hx7⟩ : ∃ z : Int32, z = l3 + 1 := ⟨_, rfl⟩
          replace hv := hv x7 hx7
          refine y_iinc (v := x7) (lv' := [(3, .int x7), (0, .ref (w.1 0)), (1, .int l1), (2, .int l2), (4, .int l4)]) E dX12_wordFrom_95 3 rfl (by rw [hx7]; rfl) (by decide) rfl ?_
          refine y_goto (tgt := 2) E dX12_wordFrom_98 (by decide) ?_
          refine y_lv (lv' := [(0, .ref (w.1 0)), (1, .int l1), (2, .int l2), (3, .int x7)]) [1, 2, 3, 0] rfl ?_
          exact ih2 σ l1 l2 x7 hv
        · replace hv := ite_f hv c6
          refine y_iload_n E dX12_wordFrom_93 3 rfl ?_
          exact y_iret E dX12_wordFrom_94 hv
      have hL26 : ∀ (n26 : Nat) (σ : Hp) (l1 : Int32) (l2 : Int32) (l3 : Int32) (l4 : Int32) (l5 : Int32), VX12_wordFrom_L26 K (VX12_wordFrom_L2 K n2) n26 σ l1 l2 l3 l4 l5 → YY p l e (yRm 1) s m [.ref (w.1 0), .int a1, .int a2].toArray below meth c w mcf 20 A (MQ below (yQi w mcf 20 K A) [.ref (w.1 0), .int a1, .int a2].toArray s 0 0 A) 6 σ 26 [(0, .ref (w.1 0)), (1, .int l1), (2, .int l2), (3, .int l3), (4, .int l4), (5, .int l5)] [] := by
        intro n26
        induction n26 with
        | zero => exact fun _ _ _ _ _ _ hv => (by unfold VX12_wordFrom_L26 at hv; exact hv.elim)
        | succ n26 ih26 =>
          have hb72 : ∀ (σ : Hp) (l1 : Int32) (l2 : Int32) (l3 : Int32) (l5 : Int32) (s0 : Int32) (s1 : Int32), VX12_wordFrom_b72 K (VX12_wordFrom_L2 K n2) (VX12_wordFrom_L26 K (VX12_wordFrom_L2 K n2) n26) σ l1 l2 l3 l5 s0 s1 → YY p l e (yRm 1) s m [.ref (w.1 0), .int a1, .int a2].toArray below meth c w mcf 20 A (MQ below (yQi w mcf 20 K A) [.ref (w.1 0), .int a1, .int a2].toArray s 0 0 A) 6 σ 72 [(0, .ref (w.1 0)), (1, .int l1), (2, .int l2), (3, .int l3), (5, .int l5)] [.int s0, .int s1] := by
            intro σ l1 l2 l3 l5 s0 s1 hv
            unfold VX12_wordFrom_b72 at hv
            refine y_icmp_ne (tgt := 79) E dX12_wordFrom_72 (by decide) (fun c8 => ?_) (fun c8 => ?_)
            · replace hv := ite_f hv c8
              refine y_iconst (v := 0) E dX12_wordFrom_79 (by decide) ?_
              refine y_istore (lv' := [(4, .int 0), (0, .ref (w.1 0)), (1, .int l1), (2, .int l2), (3, .int l3), (5, .int l5)]) E dX12_wordFrom_80 (by decide) rfl ?_
              obtain ⟨x9, hx9⟩ : ∃ z : Int32, z = l5 + 1 := ⟨_, rfl⟩
              replace hv := hv x9 hx9
              refine y_iinc (v := x9) (lv' := [(5, .int x9), (4, .int 0), (0, .ref (w.1 0)), (1, .int l1), (2, .int l2), (3, .int l3)]) E dX12_wordFrom_82 5 rfl (by rw [hx9]; rfl) (by decide) rfl ?_
              refine y_goto (tgt := 26) E dX12_wordFrom_85 (by decide) ?_
              refine y_lv (lv' := [(0, .ref (w.1 0)), (1, .int l1), (2, .int l2), (3, .int l3), (4, .int 0), (5, .int x9)]) [2, 3, 4, 5, 1, 0] rfl ?_
              exact ih26 σ l1 l2 l3 0 x9 hv
            · replace hv := ite_t hv c8
              refine y_iconst (v := 1) E dX12_wordFrom_75 (by decide) ?_
              refine y_goto (tgt := 80) E dX12_wordFrom_76 (by decide) ?_
              refine y_istore (lv' := [(4, .int 1), (0, .ref (w.1 0)), (1, .int l1), (2, .int l2), (3, .int l3), (5, .int l5)]) E dX12_wordFrom_80 (by decide) rfl ?_
              obtain ⟨x10, hx10⟩ : ∃ z : Int32, z = l5 + 1 := ⟨_, rfl⟩
              replace hv := hv x10 hx10
              refine y_iinc (v := x10) (lv' := [(5, .int x10), (4, .int 1), (0, .ref (w.1 0)), (1, .int l1), (2, .int l2), (3, .int l3)]) E dX12_wordFrom_82 5 rfl (by rw [hx10]; rfl) (by decide) rfl ?_
              refine y_goto (tgt := 26) E dX12_wordFrom_85 (by decide) ?_
              refine y_lv (lv' := [(0, .ref (w.1 0)), (1, .int l1), (2, .int l2), (3, .int l3), (4, .int 1), (5, .int x10)]) [2, 3, 4, 5, 1, 0] rfl ?_
              exact ih26 σ l1 l2 l3 1 x10 hv
          intro σ l1 l2 l3 l4 l5 hv
          unfold VX12_wordFrom_L26 at hv
          refine y_iload E dX12_wordFrom_26 5 rfl ?_
          refine y_bipush (v := 8) E dX12_wordFrom_28 (by decide) ?_
          refine y_icmp_ge (tgt := 88) E dX12_wordFrom_30 (by decide) (fun c3 => ?_) (fun c3 => ?_)
          · replace hv := ite_t hv c3
            refine y_lv (lv' := [(0, .ref (w.1 0)), (1, .int l1), (2, .int l2), (3, .int l3), (4, .int l4)]) [0, 1, 2, 3, 4] rfl ?_
            exact hb88 σ l1 l2 l3 l4 hv
          · replace hv := ite_f hv c3
            refine y_iload E dX12_wordFrom_33 4 rfl ?_
            refine y_if_eq (tgt := 88) E dX12_wordFrom_35 (by decide) (fun c4 => ?_) (fun c4 => ?_)
            · replace hv := ite_t hv c4
              refine y_lv (lv' := [(0, .ref (w.1 0)), (1, .int l1), (2, .int l2), (3, .int l3), (4, .int l4)]) [0, 1, 2, 3, 4] rfl ?_
              exact hb88 σ l1 l2 l3 l4 hv
            · replace hv := ite_f hv c4
              refine y_aload_n E dX12_wordFrom_38 0 rfl ?_
              refine gf_X12_25 E (by decide) (by decide) wm_503 dX12_wordFrom_39 ?_
              refine y_bipush (v := 8) E dX12_wordFrom_42 (by decide) ?_
              refine y_iload_n E dX12_wordFrom_44 3 rfl ?_
              refine y_imul E dX12_wordFrom_45 ?_
              refine y_iload E dX12_wordFrom_46 5 rfl ?_
              refine y_iadd E dX12_wordFrom_48 ?_
              obtain ⟨hi, hv⟩ := hv
              refine y_iald E (Nat.lt_of_lt_of_le (show 14 < 15 by decide) (by decide)) (mc_m_words (by decide) (by decide)) hi dX12_wordFrom_49 ?_
              refine y_iload_n E dX12_wordFrom_50 1 rfl ?_
              refine y_iload E dX12_wordFrom_51 5 rfl ?_
              refine y_iadd E dX12_wordFrom_53 ?_
              refine y_iload_n E dX12_wordFrom_54 2 rfl ?_
              refine y_icmp_ge (tgt := 70) E dX12_wordFrom_55 (by decide) (fun c5 => ?_) (fun c5 => ?_)
              · replace hv := ite_t hv c5
                refine y_bipush (v := 32) E dX12_wordFrom_70 (by decide) ?_
                refine y_lv (lv' := [(0, .ref (w.1 0)), (1, .int l1), (2, .int l2), (3, .int l3), (5, .int l5)]) [0, 1, 2, 3, 5] rfl ?_
                exact hb72 σ l1 l2 l3 l5 32 (σ 14 ((8 * l3) + l5).toNatClampNeg) hv
              · replace hv := ite_f hv c5
                refine y_aload_n E dX12_wordFrom_58 0 rfl ?_
                refine gf_X12_7 E (by decide) (by decide) wm_502 dX12_wordFrom_59 ?_
                refine y_iload_n E dX12_wordFrom_62 1 rfl ?_
                refine y_iload E dX12_wordFrom_63 5 rfl ?_
                refine y_iadd E dX12_wordFrom_65 ?_
                obtain ⟨hi, hv⟩ := hv
                refine y_iald E (Nat.lt_of_lt_of_le (show 6 < 7 by decide) (by decide)) (mc_m_tape (by decide) (by decide)) hi dX12_wordFrom_66 ?_
                refine y_goto (tgt := 72) E dX12_wordFrom_67 (by decide) ?_
                refine y_lv (lv' := [(0, .ref (w.1 0)), (1, .int l1), (2, .int l2), (3, .int l3), (5, .int l5)]) [0, 1, 2, 3, 5] rfl ?_
                exact hb72 σ l1 l2 l3 l5 (σ 6 (l1 + l5).toNatClampNeg) (σ 14 ((8 * l3) + l5).toNatClampNeg) hv
      intro σ l1 l2 l3 hv
      unfold VX12_wordFrom_L2 at hv
      refine y_iload_n E dX12_wordFrom_2 3 rfl ?_
      refine y_bipush (v := 12) E dX12_wordFrom_3 (by decide) ?_
      refine y_icmp_ge (tgt := 101) E dX12_wordFrom_5 (by decide) (fun c1 => ?_) (fun c1 => ?_)
      · replace hv := ite_t hv c1
        refine y_bipush (v := 12) E dX12_wordFrom_101 (by decide) ?_
        exact y_iret E dX12_wordFrom_103 hv
      · replace hv := ite_f hv c1
        refine y_iload_n E dX12_wordFrom_8 2 rfl ?_
        refine y_iload_n E dX12_wordFrom_9 1 rfl ?_
        refine y_isub E dX12_wordFrom_10 ?_
        refine y_bipush (v := 8) E dX12_wordFrom_11 (by decide) ?_
        refine y_icmp_gt (tgt := 20) E dX12_wordFrom_13 (by decide) (fun c2 => ?_) (fun c2 => ?_)
        · replace hv := ite_t hv c2
          refine y_iconst (v := 0) E dX12_wordFrom_20 (by decide) ?_
          refine y_istore (lv' := [(4, .int 0), (0, .ref (w.1 0)), (1, .int l1), (2, .int l2), (3, .int l3)]) E dX12_wordFrom_21 (by decide) rfl ?_
          refine y_iconst (v := 0) E dX12_wordFrom_23 (by decide) ?_
          refine y_istore (lv' := [(5, .int 0), (4, .int 0), (0, .ref (w.1 0)), (1, .int l1), (2, .int l2), (3, .int l3)]) E dX12_wordFrom_24 (by decide) rfl ?_
          refine y_lv (lv' := [(0, .ref (w.1 0)), (1, .int l1), (2, .int l2), (3, .int l3), (4, .int 0), (5, .int 0)]) [2, 3, 4, 5, 1, 0] rfl ?_
          obtain ⟨n0, hv⟩ := hv
          exact hL26 n0 σ l1 l2 l3 0 0 hv
        · replace hv := ite_f hv c2
          refine y_iconst (v := 1) E dX12_wordFrom_16 (by decide) ?_
          refine y_goto (tgt := 21) E dX12_wordFrom_17 (by decide) ?_
          refine y_istore (lv' := [(4, .int 1), (0, .ref (w.1 0)), (1, .int l1), (2, .int l2), (3, .int l3)]) E dX12_wordFrom_21 (by decide) rfl ?_
          refine y_iconst (v := 0) E dX12_wordFrom_23 (by decide) ?_
          refine y_istore (lv' := [(5, .int 0), (4, .int 1), (0, .ref (w.1 0)), (1, .int l1), (2, .int l2), (3, .int l3)]) E dX12_wordFrom_24 (by decide) rfl ?_
          refine y_lv (lv' := [(0, .ref (w.1 0)), (1, .int l1), (2, .int l2), (3, .int l3), (4, .int 1), (5, .int 0)]) [2, 3, 4, 5, 1, 0] rfl ?_
          obtain ⟨n0, hv⟩ := hv
          exact hL26 n0 σ l1 l2 l3 1 0 hv
  refine y_iconst (v := 0) E dX12_wordFrom_0 (by decide) ?_
  refine y_istore_n (lv' := [(3, .int 0), (0, .ref (w.1 0)), (1, .int a1), (2, .int a2)]) E dX12_wordFrom_1 (by decide) rfl ?_
  refine y_lv (lv' := [(0, .ref (w.1 0)), (1, .int a1), (2, .int a2), (3, .int 0)]) [1, 2, 3, 0] rfl ?_
  obtain ⟨n0, hv⟩ := hv
  exact hL2 n0 σ a1 a2 0 hv
