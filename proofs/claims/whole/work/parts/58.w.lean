theorem dX12_key_0 : decode cX12_key 0 = .ok (.iconst 0, 1) := by decide +kernel
theorem dX12_key_1 : decode cX12_key 1 = .ok (.istore_n 1, 1) := by decide +kernel
theorem dX12_key_2 : decode cX12_key 2 = .ok (.iconst 0, 1) := by decide +kernel
theorem dX12_key_3 : decode cX12_key 3 = .ok (.istore_n 2, 1) := by decide +kernel
theorem dX12_key_4 : decode cX12_key 4 = .ok (.iload_n 2, 1) := by decide +kernel
theorem dX12_key_5 : decode cX12_key 5 = .ok (.aload_n 0, 1) := by decide +kernel
theorem dX12_key_6 : decode cX12_key 6 = .ok (.getfield 87, 3) := by decide +kernel
theorem dX12_key_9 : decode cX12_key 9 = .ok (.if_icmp .ge 57, 3) := by decide +kernel
theorem dX12_key_12 : decode cX12_key 12 = .ok (.iload_n 1, 1) := by decide +kernel
theorem dX12_key_13 : decode cX12_key 13 = .ok (.aload_n 0, 1) := by decide +kernel
theorem dX12_key_14 : decode cX12_key 14 = .ok (.getfield 22, 3) := by decide +kernel
theorem dX12_key_17 : decode cX12_key 17 = .ok (.iload_n 2, 1) := by decide +kernel
theorem dX12_key_18 : decode cX12_key 18 = .ok (.iaload, 1) := by decide +kernel
theorem dX12_key_19 : decode cX12_key 19 = .ok (.iconst 4, 1) := by decide +kernel
theorem dX12_key_20 : decode cX12_key 20 = .ok (.if_icmp .ne 7, 3) := by decide +kernel
theorem dX12_key_23 : decode cX12_key 23 = .ok (.iconst 0, 1) := by decide +kernel
theorem dX12_key_24 : decode cX12_key 24 = .ok (.goto 4, 3) := by decide +kernel
theorem dX12_key_27 : decode cX12_key 27 = .ok (.iconst 1, 1) := by decide +kernel
theorem dX12_key_28 : decode cX12_key 28 = .ok (.iadd, 1) := by decide +kernel
theorem dX12_key_29 : decode cX12_key 29 = .ok (.istore_n 1, 1) := by decide +kernel
theorem dX12_key_30 : decode cX12_key 30 = .ok (.aload_n 0, 1) := by decide +kernel
theorem dX12_key_31 : decode cX12_key 31 = .ok (.getfield 22, 3) := by decide +kernel
theorem dX12_key_34 : decode cX12_key 34 = .ok (.iload_n 2, 1) := by decide +kernel
theorem dX12_key_35 : decode cX12_key 35 = .ok (.aload_n 0, 1) := by decide +kernel
theorem dX12_key_36 : decode cX12_key 36 = .ok (.getfield 22, 3) := by decide +kernel
theorem dX12_key_39 : decode cX12_key 39 = .ok (.iload_n 2, 1) := by decide +kernel
theorem dX12_key_40 : decode cX12_key 40 = .ok (.iaload, 1) := by decide +kernel
theorem dX12_key_41 : decode cX12_key 41 = .ok (.iconst 4, 1) := by decide +kernel
theorem dX12_key_42 : decode cX12_key 42 = .ok (.if_icmp .ne 7, 3) := by decide +kernel
theorem dX12_key_45 : decode cX12_key 45 = .ok (.iconst 4, 1) := by decide +kernel
theorem dX12_key_46 : decode cX12_key 46 = .ok (.goto 13, 3) := by decide +kernel
theorem dX12_key_49 : decode cX12_key 49 = .ok (.aload_n 0, 1) := by decide +kernel
theorem dX12_key_50 : decode cX12_key 50 = .ok (.getfield 22, 3) := by decide +kernel
theorem dX12_key_53 : decode cX12_key 53 = .ok (.iload_n 2, 1) := by decide +kernel
theorem dX12_key_54 : decode cX12_key 54 = .ok (.iaload, 1) := by decide +kernel
theorem dX12_key_55 : decode cX12_key 55 = .ok (.iconst 1, 1) := by decide +kernel
theorem dX12_key_56 : decode cX12_key 56 = .ok (.iadd, 1) := by decide +kernel
theorem dX12_key_57 : decode cX12_key 57 = .ok (.iconst 4, 1) := by decide +kernel
theorem dX12_key_58 : decode cX12_key 58 = .ok (.irem, 1) := by decide +kernel
theorem dX12_key_59 : decode cX12_key 59 = .ok (.iastore, 1) := by decide +kernel
theorem dX12_key_60 : decode cX12_key 60 = .ok (.iinc 2 1, 3) := by decide +kernel
theorem dX12_key_63 : decode cX12_key 63 = .ok (.goto (-59), 3) := by decide +kernel
theorem dX12_key_66 : decode cX12_key 66 = .ok (.iload_n 1, 1) := by decide +kernel
theorem dX12_key_67 : decode cX12_key 67 = .ok (.ireturn, 1) := by decide +kernel
set_option maxRecDepth 100000 in
set_option maxHeartbeats 4000000 in
theorem kX12_key (l : Launch) (w : wT) (hw : yOk w 20) (σ : Hp)  (K : Int32 → Hp → Prop) (hv : VX12_key K σ ) : yMet l w mcf 20 yX12_key cX12_key 3 (some .int) 1 [.ref (w.1 0)] σ (yQi w mcf 20 K) := by
  unfold VX12_key at hv
  refine y_start (lv0 := [(0, .ref (w.1 0))]) (by decide +kernel) (own := RX12) rfl hw (Nat.le_of_ble_eq_true rfl) rfl (fun p e s m below meth c A E => ?_)
  have hL4 : ∀ (n4 : Nat) (σ : Hp) (l1 : Int32) (l2 : Int32), VX12_key_L4 K n4 σ l1 l2 → YY p l e (yRm 1) s m [.ref (w.1 0)].toArray below meth c w mcf 20 A (MQ below (yQi w mcf 20 K A) [.ref (w.1 0)].toArray s 0 0 A) 3 σ 4 [(0, .ref (w.1 0)), (1, .int l1), (2, .int l2)] [] := by
    intro n4
    induction n4 with
    | zero => exact fun _ _ _ hv => (by unfold VX12_key_L4 at hv; exact hv.elim)
    | succ n4 ih4 =>
      have hb28 : ∀ (σ : Hp) (l2 : Int32) (s0 : Int32) (s1 : Int32), VX12_key_b28 K (VX12_key_L4 K n4) σ l2 s0 s1 → YY p l e (yRm 1) s m [.ref (w.1 0)].toArray below meth c w mcf 20 A (MQ below (yQi w mcf 20 K A) [.ref (w.1 0)].toArray s 0 0 A) 3 σ 28 [(0, .ref (w.1 0)), (2, .int l2)] [.int s0, .int s1] := by
        intro σ l2 s0 s1 hv
        unfold VX12_key_b28 at hv
        refine y_iadd E dX12_key_28 ?_
        refine y_nmi (fun x3 hx3 => ?_)
        replace hv := hv x3 hx3
        refine y_istore_n (lv' := [(1, .int x3), (0, .ref (w.1 0)), (2, .int l2)]) E dX12_key_29 (by decide) rfl ?_
        refine y_aload_n E dX12_key_30 1 rfl ?_
        refine gf_X12_6 E (by decide) (by decide) wm_573 dX12_key_31 ?_
        refine y_iload_n E dX12_key_34 2 rfl ?_
        refine y_aload_n E dX12_key_35 1 rfl ?_
        refine gf_X12_6 E (by decide) (by decide) wm_573 dX12_key_36 ?_
        refine y_iload_n E dX12_key_39 2 rfl ?_
        obtain ⟨hi, hv⟩ := hv
        refine y_iald E (Nat.lt_of_lt_of_le (show 5 < 6 by decide) (by decide)) (mc_m_wayOf (by decide) (by decide)) hi dX12_key_40 ?_
        refine y_iconst (v := 4) E dX12_key_41 (by decide) ?_
        refine y_icmp_ne (tgt := 49) E dX12_key_42 (by decide) (fun c4 => ?_) (fun c4 => ?_)
        · replace hv := ite_f hv c4
          refine y_aload_n E dX12_key_49 1 rfl ?_
          refine gf_X12_6 E (by decide) (by decide) wm_573 dX12_key_50 ?_
          refine y_iload_n E dX12_key_53 2 rfl ?_
          obtain ⟨hi, hv⟩ := hv
          refine y_iald E (Nat.lt_of_lt_of_le (show 5 < 6 by decide) (by decide)) (mc_m_wayOf (by decide) (by decide)) hi dX12_key_54 ?_
          refine y_iconst (v := 1) E dX12_key_55 (by decide) ?_
          refine y_iadd E dX12_key_56 ?_
          refine y_iconst (v := 4) E dX12_key_57 (by decide) ?_
          refine y_irem E dX12_key_58 (by decide) ?_
          obtain ⟨hi, hv⟩ := hv
          refine y_iast E (Nat.lt_of_lt_of_le (show 5 < 6 by decide) (by decide)) (fun _ => mc_m_wayOf (by decide) (by decide)) hi dX12_key_59 ?_
          refine y_nmH (fun u5 hu5 => ?_)
          replace hv := hv u5 hu5
          obtain ⟨x6, hx6⟩ : ∃ z : Int32, z = l2 + 1 := ⟨_, rfl⟩
          replace hv := hv x6 hx6
          refine y_iinc (v := x6) (lv' := [(2, .int x6), (1, .int x3), (0, .ref (w.1 0))]) E dX12_key_60 2 rfl (by rw [hx6]; rfl) (by decide) rfl ?_
          refine y_goto (tgt := 4) E dX12_key_63 (by decide) ?_
          refine y_lv (lv' := [(0, .ref (w.1 0)), (1, .int x3), (2, .int x6)]) [2, 1, 0] rfl ?_
          exact ih4 u5 x3 x6 hv
        · replace hv := ite_t hv c4
          refine y_iconst (v := 4) E dX12_key_45 (by decide) ?_
          refine y_goto (tgt := 59) E dX12_key_46 (by decide) ?_
          obtain ⟨hi, hv⟩ := hv
          refine y_iast E (Nat.lt_of_lt_of_le (show 5 < 6 by decide) (by decide)) (fun _ => mc_m_wayOf (by decide) (by decide)) hi dX12_key_59 ?_
          refine y_nmH (fun u7 hu7 => ?_)
          replace hv := hv u7 hu7
          obtain ⟨x8, hx8⟩ : ∃ z : Int32, z = l2 + 1 := ⟨_, rfl⟩
          replace hv := hv x8 hx8
          refine y_iinc (v := x8) (lv' := [(2, .int x8), (1, .int x3), (0, .ref (w.1 0))]) E dX12_key_60 2 rfl (by rw [hx8]; rfl) (by decide) rfl ?_
          refine y_goto (tgt := 4) E dX12_key_63 (by decide) ?_
          refine y_lv (lv' := [(0, .ref (w.1 0)), (1, .int x3), (2, .int x8)]) [2, 1, 0] rfl ?_
          exact ih4 u7 x3 x8 hv
      intro σ l1 l2 hv
      unfold VX12_key_L4 at hv
      refine y_iload_n E dX12_key_4 2 rfl ?_
      refine y_aload_n E dX12_key_5 0 rfl ?_
      refine gf_X12_2 E (by decide) (by decide) wm_489 dX12_key_6 ?_
      refine y_icmp_ge (tgt := 66) E dX12_key_9 (by decide) (fun c1 => ?_) (fun c1 => ?_)
      · replace hv := ite_t hv c1
        refine y_iload_n E dX12_key_66 1 rfl ?_
        exact y_iret E dX12_key_67 hv
      · replace hv := ite_f hv c1
        refine y_iload_n E dX12_key_12 1 rfl ?_
        refine y_aload_n E dX12_key_13 0 rfl ?_
        refine gf_X12_6 E (by decide) (by decide) wm_573 dX12_key_14 ?_
        refine y_iload_n E dX12_key_17 2 rfl ?_
        obtain ⟨hi, hv⟩ := hv
        refine y_iald E (Nat.lt_of_lt_of_le (show 5 < 6 by decide) (by decide)) (mc_m_wayOf (by decide) (by decide)) hi dX12_key_18 ?_
        refine y_iconst (v := 4) E dX12_key_19 (by decide) ?_
        refine y_icmp_ne (tgt := 27) E dX12_key_20 (by decide) (fun c2 => ?_) (fun c2 => ?_)
        · replace hv := ite_f hv c2
          refine y_iconst (v := 1) E dX12_key_27 (by decide) ?_
          refine y_lv (lv' := [(0, .ref (w.1 0)), (2, .int l2)]) [0, 2] rfl ?_
          exact hb28 σ l2 1 l1 hv
        · replace hv := ite_t hv c2
          refine y_iconst (v := 0) E dX12_key_23 (by decide) ?_
          refine y_goto (tgt := 28) E dX12_key_24 (by decide) ?_
          refine y_lv (lv' := [(0, .ref (w.1 0)), (2, .int l2)]) [0, 2] rfl ?_
          exact hb28 σ l2 0 l1 hv
  refine y_iconst (v := 0) E dX12_key_0 (by decide) ?_
  refine y_istore_n (lv' := [(1, .int 0), (0, .ref (w.1 0))]) E dX12_key_1 (by decide) rfl ?_
  refine y_iconst (v := 0) E dX12_key_2 (by decide) ?_
  refine y_istore_n (lv' := [(2, .int 0), (1, .int 0), (0, .ref (w.1 0))]) E dX12_key_3 (by decide) rfl ?_
  refine y_lv (lv' := [(0, .ref (w.1 0)), (1, .int 0), (2, .int 0)]) [2, 1, 0] rfl ?_
  obtain ⟨n0, hv⟩ := hv
  exact hL4 n0 σ 0 0 hv
theorem dX12_turnedFirst_0 : decode cX12_turnedFirst 0 = .ok (.aload_n 0, 1) := by decide +kernel
theorem dX12_turnedFirst_1 : decode cX12_turnedFirst 1 = .ok (.iload_n 1, 1) := by decide +kernel
theorem dX12_turnedFirst_2 : decode cX12_turnedFirst 2 = .ok (.invokevirtual 200, 3) := by decide +kernel
theorem dX12_turnedFirst_5 : decode cX12_turnedFirst 5 = .ok (.iconst 0, 1) := by decide +kernel
theorem dX12_turnedFirst_6 : decode cX12_turnedFirst 6 = .ok (.istore 4, 2) := by decide +kernel
theorem dX12_turnedFirst_8 : decode cX12_turnedFirst 8 = .ok (.iload 4, 2) := by decide +kernel
theorem dX12_turnedFirst_10 : decode cX12_turnedFirst 10 = .ok (.bipush 40, 2) := by decide +kernel
theorem dX12_turnedFirst_12 : decode cX12_turnedFirst 12 = .ok (.if_icmp .gt 65, 3) := by decide +kernel
theorem dX12_turnedFirst_15 : decode cX12_turnedFirst 15 = .ok (.aload_n 0, 1) := by decide +kernel
theorem dX12_turnedFirst_16 : decode cX12_turnedFirst 16 = .ok (.getfield 181, 3) := by decide +kernel
theorem dX12_turnedFirst_19 : decode cX12_turnedFirst 19 = .ok (.iload_n 2, 1) := by decide +kernel
theorem dX12_turnedFirst_20 : decode cX12_turnedFirst 20 = .ok (.if_icmp .ne 6, 3) := by decide +kernel
theorem dX12_turnedFirst_23 : decode cX12_turnedFirst 23 = .ok (.iload 4, 2) := by decide +kernel
theorem dX12_turnedFirst_25 : decode cX12_turnedFirst 25 = .ok (.ireturn, 1) := by decide +kernel
theorem dX12_turnedFirst_26 : decode cX12_turnedFirst 26 = .ok (.aload_n 0, 1) := by decide +kernel
theorem dX12_turnedFirst_27 : decode cX12_turnedFirst 27 = .ok (.iload 4, 2) := by decide +kernel
theorem dX12_turnedFirst_29 : decode cX12_turnedFirst 29 = .ok (.iload_n 3, 1) := by decide +kernel
theorem dX12_turnedFirst_30 : decode cX12_turnedFirst 30 = .ok (.if_icmp .ne 22, 3) := by decide +kernel
theorem dX12_turnedFirst_33 : decode cX12_turnedFirst 33 = .ok (.aload_n 0, 1) := by decide +kernel
theorem dX12_turnedFirst_34 : decode cX12_turnedFirst 34 = .ok (.getfield 184, 3) := by decide +kernel
theorem dX12_turnedFirst_37 : decode cX12_turnedFirst 37 = .ok (.iconst 4, 1) := by decide +kernel
theorem dX12_turnedFirst_38 : decode cX12_turnedFirst 38 = .ok (.if_icmp .eq 14, 3) := by decide +kernel
theorem dX12_turnedFirst_41 : decode cX12_turnedFirst 41 = .ok (.aload_n 0, 1) := by decide +kernel
theorem dX12_turnedFirst_42 : decode cX12_turnedFirst 42 = .ok (.getfield 184, 3) := by decide +kernel
theorem dX12_turnedFirst_45 : decode cX12_turnedFirst 45 = .ok (.iconst 1, 1) := by decide +kernel
theorem dX12_turnedFirst_46 : decode cX12_turnedFirst 46 = .ok (.iadd, 1) := by decide +kernel
theorem dX12_turnedFirst_47 : decode cX12_turnedFirst 47 = .ok (.iconst 4, 1) := by decide +kernel
theorem dX12_turnedFirst_48 : decode cX12_turnedFirst 48 = .ok (.irem, 1) := by decide +kernel
theorem dX12_turnedFirst_49 : decode cX12_turnedFirst 49 = .ok (.goto 7, 3) := by decide +kernel
theorem dX12_turnedFirst_52 : decode cX12_turnedFirst 52 = .ok (.aload_n 0, 1) := by decide +kernel
theorem dX12_turnedFirst_53 : decode cX12_turnedFirst 53 = .ok (.getfield 184, 3) := by decide +kernel
theorem dX12_turnedFirst_56 : decode cX12_turnedFirst 56 = .ok (.putfield 184, 3) := by decide +kernel
theorem dX12_turnedFirst_59 : decode cX12_turnedFirst 59 = .ok (.aload_n 0, 1) := by decide +kernel
theorem dX12_turnedFirst_60 : decode cX12_turnedFirst 60 = .ok (.iload_n 1, 1) := by decide +kernel
theorem dX12_turnedFirst_61 : decode cX12_turnedFirst 61 = .ok (.aload_n 0, 1) := by decide +kernel
theorem dX12_turnedFirst_62 : decode cX12_turnedFirst 62 = .ok (.getfield 93, 3) := by decide +kernel
theorem dX12_turnedFirst_65 : decode cX12_turnedFirst 65 = .ok (.iload 4, 2) := by decide +kernel
theorem dX12_turnedFirst_67 : decode cX12_turnedFirst 67 = .ok (.iadd, 1) := by decide +kernel
theorem dX12_turnedFirst_68 : decode cX12_turnedFirst 68 = .ok (.invokevirtual 196, 3) := by decide +kernel
theorem dX12_turnedFirst_71 : decode cX12_turnedFirst 71 = .ok (.iinc 4 1, 3) := by decide +kernel
theorem dX12_turnedFirst_74 : decode cX12_turnedFirst 74 = .ok (.goto (-66), 3) := by decide +kernel
theorem dX12_turnedFirst_77 : decode cX12_turnedFirst 77 = .ok (.iconst (-1), 1) := by decide +kernel
theorem dX12_turnedFirst_78 : decode cX12_turnedFirst 78 = .ok (.ireturn, 1) := by decide +kernel
set_option maxRecDepth 100000 in
set_option maxHeartbeats 4000000 in
theorem kX12_turnedFirst (l : Launch) (w : wT) (hw : yOk w 20) (σ : Hp) (a1 : Int32) (a2 : Int32) (a3 : Int32) (K : Int32 → Hp → Prop) (hv : VX12_turnedFirst K σ a1 a2 a3) : yMet l w mcf 20 yX12_turnedFirst cX12_turnedFirst 5 (some .int) 5 [.ref (w.1 0), .int a1, .int a2, .int a3] σ (yQi w mcf 20 K) := by
  unfold VX12_turnedFirst at hv
  refine y_start (lv0 := [(0, .ref (w.1 0)), (1, .int a1), (2, .int a2), (3, .int a3)]) (by decide +kernel) (own := RX12) rfl hw (Nat.le_of_ble_eq_true rfl) rfl (fun p e s m below meth c A E => ?_)
  have hL8 : ∀ (n8 : Nat) (σ : Hp) (l1 : Int32) (l2 : Int32) (l3 : Int32) (l4 : Int32), VX12_turnedFirst_L8 K n8 σ l1 l2 l3 l4 → YY p l e (yRm 5) s m [.ref (w.1 0), .int a1, .int a2, .int a3].toArray below meth c w mcf 20 A (MQ below (yQi w mcf 20 K A) [.ref (w.1 0), .int a1, .int a2, .int a3].toArray s 0 0 A) 5 σ 8 [(0, .ref (w.1 0)), (1, .int l1), (2, .int l2), (3, .int l3), (4, .int l4)] [] := by
    intro n8
    induction n8 with
    | zero => exact fun _ _ _ _ _ hv => (by unfold VX12_turnedFirst_L8 at hv; exact hv.elim)
    | succ n8 ih8 =>
      have hb56 : ∀ (σ : Hp) (l1 : Int32) (l2 : Int32) (l3 : Int32) (l4 : Int32) (s0 : Int32), VX12_turnedFirst_b56 K (VX12_turnedFirst_L8 K n8) σ l1 l2 l3 l4 s0 → YY p l e (yRm 5) s m [.ref (w.1 0), .int a1, .int a2, .int a3].toArray below meth c w mcf 20 A (MQ below (yQi w mcf 20 K A) [.ref (w.1 0), .int a1, .int a2, .int a3].toArray s 0 0 A) 5 σ 56 [(0, .ref (w.1 0)), (1, .int l1), (2, .int l2), (3, .int l3), (4, .int l4)] [.int s0, .ref (w.1 0)] := by
        intro σ l1 l2 l3 l4 s0 hv
        unfold VX12_turnedFirst_b56 at hv
        refine pf_X12_33 E (by decide) (by decide) wm_582 dX12_turnedFirst_56 ?_
        refine y_nmH (fun u7 hu7 => ?_)
        replace hv := hv u7 hu7
        refine y_aload_n E dX12_turnedFirst_59 0 rfl ?_
        refine y_iload_n E dX12_turnedFirst_60 1 rfl ?_
        refine y_aload_n E dX12_turnedFirst_61 0 rfl ?_
        refine gf_X12_1 E (by decide) (by decide) wm_495 dX12_turnedFirst_62 ?_
        refine y_iload E dX12_turnedFirst_65 4 rfl ?_
        refine y_iadd E dX12_turnedFirst_67 ?_
        refine y_callv E (y_runV E (rest := []) (kX12_steps l w E.2.2.1 u7 l1 ((u7 0 1) + l4) _ hv) (y_cwV 2 E.1.2.2.2.2 wm_594 wm_595 wm_596 wm_479 wm_597 (by decide +kernel) (yRm_le (by decide) (by decide))) (Nat.lt_of_lt_of_le (show 0 < 1 by decide) (by decide)) (mc_X12 (by decide) (by decide)) rfl rfl rfl (Nat.le_of_ble_eq_true rfl) dX12_turnedFirst_68) (fun u9 hk => ?_)
        clear hv
        have hv := hk
        clear hk
        obtain ⟨x10, hx10⟩ : ∃ z : Int32, z = l4 + 1 := ⟨_, rfl⟩
        replace hv := hv x10 hx10
        refine y_iinc (v := x10) (lv' := [(4, .int x10), (0, .ref (w.1 0)), (1, .int l1), (2, .int l2), (3, .int l3)]) E dX12_turnedFirst_71 4 rfl (by rw [hx10]; rfl) (by decide) rfl ?_
        refine y_goto (tgt := 8) E dX12_turnedFirst_74 (by decide) ?_
        refine y_lv (lv' := [(0, .ref (w.1 0)), (1, .int l1), (2, .int l2), (3, .int l3), (4, .int x10)]) [1, 2, 3, 4, 0] rfl ?_
        exact ih8 u9 l1 l2 l3 x10 hv
      intro σ l1 l2 l3 l4 hv
      unfold VX12_turnedFirst_L8 at hv
      refine y_iload E dX12_turnedFirst_8 4 rfl ?_
      refine y_bipush (v := 40) E dX12_turnedFirst_10 (by decide) ?_
      refine y_icmp_gt (tgt := 77) E dX12_turnedFirst_12 (by decide) (fun c3 => ?_) (fun c3 => ?_)
      · replace hv := ite_t hv c3
        refine y_iconst (v := (-1)) E dX12_turnedFirst_77 (by decide) ?_
        exact y_iret E dX12_turnedFirst_78 hv
      · replace hv := ite_f hv c3
        refine y_aload_n E dX12_turnedFirst_15 0 rfl ?_
        refine gf_X12_32 E (by decide) (by decide) wm_581 dX12_turnedFirst_16 ?_
        refine y_iload_n E dX12_turnedFirst_19 2 rfl ?_
        refine y_icmp_ne (tgt := 26) E dX12_turnedFirst_20 (by decide) (fun c4 => ?_) (fun c4 => ?_)
        · replace hv := ite_f hv c4
          refine y_aload_n E dX12_turnedFirst_26 0 rfl ?_
          refine y_iload E dX12_turnedFirst_27 4 rfl ?_
          refine y_iload_n E dX12_turnedFirst_29 3 rfl ?_
          refine y_icmp_ne (tgt := 52) E dX12_turnedFirst_30 (by decide) (fun c5 => ?_) (fun c5 => ?_)
          · replace hv := ite_f hv c5
            refine y_aload_n E dX12_turnedFirst_52 0 rfl ?_
            refine gf_X12_33 E (by decide) (by decide) wm_582 dX12_turnedFirst_53 ?_
            exact hb56 σ l1 l2 l3 l4 (σ 0 33) hv
          · replace hv := ite_t hv c5
            refine y_aload_n E dX12_turnedFirst_33 0 rfl ?_
            refine gf_X12_33 E (by decide) (by decide) wm_582 dX12_turnedFirst_34 ?_
            refine y_iconst (v := 4) E dX12_turnedFirst_37 (by decide) ?_
            refine y_icmp_eq (tgt := 52) E dX12_turnedFirst_38 (by decide) (fun c6 => ?_) (fun c6 => ?_)
            · replace hv := ite_t hv c6
              refine y_aload_n E dX12_turnedFirst_52 0 rfl ?_
              refine gf_X12_33 E (by decide) (by decide) wm_582 dX12_turnedFirst_53 ?_
              exact hb56 σ l1 l2 l3 l4 (σ 0 33) hv
            · replace hv := ite_f hv c6
              refine y_aload_n E dX12_turnedFirst_41 0 rfl ?_
              refine gf_X12_33 E (by decide) (by decide) wm_582 dX12_turnedFirst_42 ?_
              refine y_iconst (v := 1) E dX12_turnedFirst_45 (by decide) ?_
              refine y_iadd E dX12_turnedFirst_46 ?_
              refine y_iconst (v := 4) E dX12_turnedFirst_47 (by decide) ?_
              refine y_irem E dX12_turnedFirst_48 (by decide) ?_
              refine y_goto (tgt := 56) E dX12_turnedFirst_49 (by decide) ?_
              exact hb56 σ l1 l2 l3 l4 (jrem ((σ 0 33) + 1) 4) hv
        · replace hv := ite_t hv c4
          refine y_iload E dX12_turnedFirst_23 4 rfl ?_
          exact y_iret E dX12_turnedFirst_25 hv
  refine y_aload_n E dX12_turnedFirst_0 0 rfl ?_
  refine y_iload_n E dX12_turnedFirst_1 1 rfl ?_
  refine y_callv E (y_runV E (rest := []) (kX12_begins l w E.2.2.1 σ a1 _ hv) (y_cwV 1 E.1.2.2.2.2 wm_598 wm_603 wm_604 wm_479 wm_605 (by decide +kernel) (yRm_le (by decide) (by decide))) (Nat.lt_of_lt_of_le (show 0 < 1 by decide) (by decide)) (mc_X12 (by decide) (by decide)) rfl rfl rfl (Nat.le_of_ble_eq_true rfl) dX12_turnedFirst_2) (fun u2 hk => ?_)
  clear hv
  have hv := hk
  clear hk
  refine y_iconst (v := 0) E dX12_turnedFirst_5 (by decide) ?_
  refine y_istore (lv' := [(4, .int 0), (0, .ref (w.1 0)), (1, .int a1), (2, .int a2), (3, .int a3)]) E dX12_turnedFirst_6 (by decide) rfl ?_
  refine y_lv (lv' := [(0, .ref (w.1 0)), (1, .int a1), (2, .int a2), (3, .int a3), (4, .int 0)]) [1, 2, 3, 4, 0] rfl ?_
  obtain ⟨n0, hv⟩ := hv
  exact hL8 n0 u2 a1 a2 a3 0 hv
theorem dX12_turn_0 : decode cX12_turn 0 = .ok (.aload_n 0, 1) := by decide +kernel
theorem dX12_turn_1 : decode cX12_turn 1 = .ok (.iload_n 1, 1) := by decide +kernel
theorem dX12_turn_2 : decode cX12_turn 2 = .ok (.invokevirtual 178, 3) := by decide +kernel
theorem dX12_turn_5 : decode cX12_turn 5 = .ok (.ifCond .ne 6, 3) := by decide +kernel
theorem dX12_turn_8 : decode cX12_turn 8 = .ok (.bipush (-5), 2) := by decide +kernel
theorem dX12_turn_10 : decode cX12_turn 10 = .ok (.ireturn, 1) := by decide +kernel
theorem dX12_turn_11 : decode cX12_turn 11 = .ok (.iload_n 2, 1) := by decide +kernel
theorem dX12_turn_12 : decode cX12_turn 12 = .ok (.invokestatic 79, 3) := by decide +kernel
theorem dX12_turn_15 : decode cX12_turn 15 = .ok (.ifCond .eq 12, 3) := by decide +kernel
theorem dX12_turn_18 : decode cX12_turn 18 = .ok (.iload_n 3, 1) := by decide +kernel
theorem dX12_turn_19 : decode cX12_turn 19 = .ok (.iconst 0, 1) := by decide +kernel
theorem dX12_turn_20 : decode cX12_turn 20 = .ok (.iconst 1, 1) := by decide +kernel
theorem dX12_turn_21 : decode cX12_turn 21 = .ok (.invokestatic 75, 3) := by decide +kernel
theorem dX12_turn_24 : decode cX12_turn 24 = .ok (.ifCond .ne 6, 3) := by decide +kernel
theorem dX12_turn_27 : decode cX12_turn 27 = .ok (.bipush (-7), 2) := by decide +kernel
theorem dX12_turn_29 : decode cX12_turn 29 = .ok (.ireturn, 1) := by decide +kernel
theorem dX12_turn_30 : decode cX12_turn 30 = .ok (.iconst (-1), 1) := by decide +kernel
theorem dX12_turn_31 : decode cX12_turn 31 = .ok (.istore 4, 2) := by decide +kernel
theorem dX12_turn_33 : decode cX12_turn 33 = .ok (.aload_n 0, 1) := by decide +kernel
theorem dX12_turn_34 : decode cX12_turn 34 = .ok (.iload_n 1, 1) := by decide +kernel
theorem dX12_turn_35 : decode cX12_turn 35 = .ok (.iload_n 2, 1) := by decide +kernel
theorem dX12_turn_36 : decode cX12_turn 36 = .ok (.iconst (-1), 1) := by decide +kernel
theorem dX12_turn_37 : decode cX12_turn 37 = .ok (.invokevirtual 221, 3) := by decide +kernel
theorem dX12_turn_40 : decode cX12_turn 40 = .ok (.istore 5, 2) := by decide +kernel
theorem dX12_turn_42 : decode cX12_turn 42 = .ok (.iconst 0, 1) := by decide +kernel
theorem dX12_turn_43 : decode cX12_turn 43 = .ok (.istore 6, 2) := by decide +kernel
theorem dX12_turn_45 : decode cX12_turn 45 = .ok (.iload 6, 2) := by decide +kernel
theorem dX12_turn_47 : decode cX12_turn 47 = .ok (.bipush 20, 2) := by decide +kernel
theorem dX12_turn_49 : decode cX12_turn 49 = .ok (.if_icmp .gt 73, 3) := by decide +kernel
theorem dX12_turn_52 : decode cX12_turn 52 = .ok (.aload_n 0, 1) := by decide +kernel
theorem dX12_turn_53 : decode cX12_turn 53 = .ok (.iload_n 1, 1) := by decide +kernel
theorem dX12_turn_54 : decode cX12_turn 54 = .ok (.iload_n 2, 1) := by decide +kernel
theorem dX12_turn_55 : decode cX12_turn 55 = .ok (.iload 6, 2) := by decide +kernel
theorem dX12_turn_57 : decode cX12_turn 57 = .ok (.invokevirtual 221, 3) := by decide +kernel
theorem dX12_turn_60 : decode cX12_turn 60 = .ok (.istore 7, 2) := by decide +kernel
theorem dX12_turn_62 : decode cX12_turn 62 = .ok (.iload 7, 2) := by decide +kernel
theorem dX12_turn_64 : decode cX12_turn 64 = .ok (.iconst (-1), 1) := by decide +kernel
theorem dX12_turn_65 : decode cX12_turn 65 = .ok (.if_icmp .eq 20, 3) := by decide +kernel
theorem dX12_turn_68 : decode cX12_turn 68 = .ok (.iload 5, 2) := by decide +kernel
theorem dX12_turn_70 : decode cX12_turn 70 = .ok (.iconst (-1), 1) := by decide +kernel
theorem dX12_turn_71 : decode cX12_turn 71 = .ok (.if_icmp .eq 10, 3) := by decide +kernel
theorem dX12_turn_74 : decode cX12_turn 74 = .ok (.iload 7, 2) := by decide +kernel
theorem dX12_turn_76 : decode cX12_turn 76 = .ok (.iload 5, 2) := by decide +kernel
theorem dX12_turn_78 : decode cX12_turn 78 = .ok (.if_icmp .ge 7, 3) := by decide +kernel
theorem dX12_turn_81 : decode cX12_turn 81 = .ok (.iconst 1, 1) := by decide +kernel
theorem dX12_turn_82 : decode cX12_turn 82 = .ok (.goto 4, 3) := by decide +kernel
theorem dX12_turn_85 : decode cX12_turn 85 = .ok (.iconst 0, 1) := by decide +kernel
theorem dX12_turn_86 : decode cX12_turn 86 = .ok (.istore 8, 2) := by decide +kernel
theorem dX12_turn_88 : decode cX12_turn 88 = .ok (.iload 8, 2) := by decide +kernel
theorem dX12_turn_90 : decode cX12_turn 90 = .ok (.ifCond .eq 8, 3) := by decide +kernel
theorem dX12_turn_93 : decode cX12_turn 93 = .ok (.iload 6, 2) := by decide +kernel
theorem dX12_turn_95 : decode cX12_turn 95 = .ok (.goto 5, 3) := by decide +kernel
theorem dX12_turn_98 : decode cX12_turn 98 = .ok (.iload 4, 2) := by decide +kernel
theorem dX12_turn_100 : decode cX12_turn 100 = .ok (.istore 4, 2) := by decide +kernel
theorem dX12_turn_102 : decode cX12_turn 102 = .ok (.iload 8, 2) := by decide +kernel
theorem dX12_turn_104 : decode cX12_turn 104 = .ok (.ifCond .eq 8, 3) := by decide +kernel
theorem dX12_turn_107 : decode cX12_turn 107 = .ok (.iload 7, 2) := by decide +kernel
theorem dX12_turn_109 : decode cX12_turn 109 = .ok (.goto 5, 3) := by decide +kernel
theorem dX12_turn_112 : decode cX12_turn 112 = .ok (.iload 5, 2) := by decide +kernel
theorem dX12_turn_114 : decode cX12_turn 114 = .ok (.istore 5, 2) := by decide +kernel
theorem dX12_turn_116 : decode cX12_turn 116 = .ok (.iinc 6 1, 3) := by decide +kernel
theorem dX12_turn_119 : decode cX12_turn 119 = .ok (.goto (-74), 3) := by decide +kernel
theorem dX12_turn_122 : decode cX12_turn 122 = .ok (.iload_n 3, 1) := by decide +kernel
theorem dX12_turn_123 : decode cX12_turn 123 = .ok (.ifCond .ne 8, 3) := by decide +kernel
theorem dX12_turn_126 : decode cX12_turn 126 = .ok (.iload 4, 2) := by decide +kernel
theorem dX12_turn_128 : decode cX12_turn 128 = .ok (.goto 5, 3) := by decide +kernel
theorem dX12_turn_131 : decode cX12_turn 131 = .ok (.iload 5, 2) := by decide +kernel
theorem dX12_turn_133 : decode cX12_turn 133 = .ok (.ireturn, 1) := by decide +kernel
set_option maxRecDepth 100000 in
set_option maxHeartbeats 4000000 in
theorem kX12_turn (l : Launch) (w : wT) (hw : yOk w 20) (σ : Hp) (a1 : Int32) (a2 : Int32) (a3 : Int32) (K : Int32 → Hp → Prop) (hv : VX12_turn K σ a1 a2 a3) : yMet l w mcf 20 yX12_turn cX12_turn 9 (some .int) 6 [.ref (w.1 0), .int a1, .int a2, .int a3] σ (yQi w mcf 20 K) := by
  unfold VX12_turn at hv
  refine y_start (lv0 := [(0, .ref (w.1 0)), (1, .int a1), (2, .int a2), (3, .int a3)]) (by decide +kernel) (own := RX12) rfl hw (Nat.le_of_ble_eq_true rfl) rfl (fun p e s m below meth c A E => ?_)
  have hL45 : ∀ (n45 : Nat) (σ : Hp) (l1 : Int32) (l2 : Int32) (l3 : Int32) (l4 : Int32) (l5 : Int32) (l6 : Int32), VX12_turn_L45 K n45 σ l1 l2 l3 l4 l5 l6 → YY p l e (yRm 6) s m [.ref (w.1 0), .int a1, .int a2, .int a3].toArray below meth c w mcf 20 A (MQ below (yQi w mcf 20 K A) [.ref (w.1 0), .int a1, .int a2, .int a3].toArray s 0 0 A) 9 σ 45 [(0, .ref (w.1 0)), (1, .int l1), (2, .int l2), (3, .int l3), (4, .int l4), (5, .int l5), (6, .int l6)] [] := by
    intro n45
    induction n45 with
    | zero => exact fun _ _ _ _ _ _ _ hv => (by unfold VX12_turn_L45 at hv; exact hv.elim)
    | succ n45 ih45 =>
      have hb100 : ∀ (σ : Hp) (l1 : Int32) (l2 : Int32) (l3 : Int32) (l5 : Int32) (l6 : Int32) (l7 : Int32) (l8 : Int32) (s0 : Int32), VX12_turn_b100 K (VX12_turn_L45 K n45) σ l1 l2 l3 l5 l6 l7 l8 s0 → YY p l e (yRm 6) s m [.ref (w.1 0), .int a1, .int a2, .int a3].toArray below meth c w mcf 20 A (MQ below (yQi w mcf 20 K A) [.ref (w.1 0), .int a1, .int a2, .int a3].toArray s 0 0 A) 9 σ 100 [(0, .ref (w.1 0)), (1, .int l1), (2, .int l2), (3, .int l3), (5, .int l5), (6, .int l6), (7, .int l7), (8, .int l8)] [.int s0] := by
        intro σ l1 l2 l3 l5 l6 l7 l8 s0 hv
        unfold VX12_turn_b100 at hv
        refine y_istore (lv' := [(4, .int s0), (0, .ref (w.1 0)), (1, .int l1), (2, .int l2), (3, .int l3), (5, .int l5), (6, .int l6), (7, .int l7), (8, .int l8)]) E dX12_turn_100 (by decide) rfl ?_
        refine y_iload E dX12_turn_102 8 rfl ?_
        refine y_if_eq (tgt := 112) E dX12_turn_104 (by decide) (fun c20 => ?_) (fun c20 => ?_)
        · replace hv := ite_t hv c20
          refine y_iload E dX12_turn_112 5 rfl ?_
          refine y_istore (lv' := [(5, .int l5), (4, .int s0), (0, .ref (w.1 0)), (1, .int l1), (2, .int l2), (3, .int l3), (6, .int l6), (7, .int l7), (8, .int l8)]) E dX12_turn_114 (by decide) rfl ?_
          obtain ⟨x21, hx21⟩ : ∃ z : Int32, z = l6 + 1 := ⟨_, rfl⟩
          replace hv := hv x21 hx21
          refine y_iinc (v := x21) (lv' := [(6, .int x21), (5, .int l5), (4, .int s0), (0, .ref (w.1 0)), (1, .int l1), (2, .int l2), (3, .int l3), (7, .int l7), (8, .int l8)]) E dX12_turn_116 6 rfl (by rw [hx21]; rfl) (by decide) rfl ?_
          refine y_goto (tgt := 45) E dX12_turn_119 (by decide) ?_
          refine y_lv (lv' := [(0, .ref (w.1 0)), (1, .int l1), (2, .int l2), (3, .int l3), (4, .int s0), (5, .int l5), (6, .int x21)]) [3, 4, 5, 6, 2, 1, 0] rfl ?_
          exact ih45 σ l1 l2 l3 s0 l5 x21 hv
        · replace hv := ite_f hv c20
          refine y_iload E dX12_turn_107 7 rfl ?_
          refine y_goto (tgt := 114) E dX12_turn_109 (by decide) ?_
          refine y_istore (lv' := [(5, .int l7), (4, .int s0), (0, .ref (w.1 0)), (1, .int l1), (2, .int l2), (3, .int l3), (6, .int l6), (7, .int l7), (8, .int l8)]) E dX12_turn_114 (by decide) rfl ?_
          obtain ⟨x22, hx22⟩ : ∃ z : Int32, z = l6 + 1 := ⟨_, rfl⟩
          replace hv := hv x22 hx22
          refine y_iinc (v := x22) (lv' := [(6, .int x22), (5, .int l7), (4, .int s0), (0, .ref (w.1 0)), (1, .int l1), (2, .int l2), (3, .int l3), (7, .int l7), (8, .int l8)]) E dX12_turn_116 6 rfl (by rw [hx22]; rfl) (by decide) rfl ?_
          refine y_goto (tgt := 45) E dX12_turn_119 (by decide) ?_
          refine y_lv (lv' := [(0, .ref (w.1 0)), (1, .int l1), (2, .int l2), (3, .int l3), (4, .int s0), (5, .int l7), (6, .int x22)]) [3, 4, 5, 6, 2, 1, 0] rfl ?_
          exact ih45 σ l1 l2 l3 s0 l7 x22 hv
      have hb86 : ∀ (σ : Hp) (l1 : Int32) (l2 : Int32) (l3 : Int32) (l4 : Int32) (l5 : Int32) (l6 : Int32) (l7 : Int32) (s0 : Int32), VX12_turn_b86 K (VX12_turn_L45 K n45) σ l1 l2 l3 l4 l5 l6 l7 s0 → YY p l e (yRm 6) s m [.ref (w.1 0), .int a1, .int a2, .int a3].toArray below meth c w mcf 20 A (MQ below (yQi w mcf 20 K A) [.ref (w.1 0), .int a1, .int a2, .int a3].toArray s 0 0 A) 9 σ 86 [(0, .ref (w.1 0)), (1, .int l1), (2, .int l2), (3, .int l3), (4, .int l4), (5, .int l5), (6, .int l6), (7, .int l7)] [.int s0] := by
        intro σ l1 l2 l3 l4 l5 l6 l7 s0 hv
        unfold VX12_turn_b86 at hv
        refine y_istore (lv' := [(8, .int s0), (0, .ref (w.1 0)), (1, .int l1), (2, .int l2), (3, .int l3), (4, .int l4), (5, .int l5), (6, .int l6), (7, .int l7)]) E dX12_turn_86 (by decide) rfl ?_
        refine y_iload E dX12_turn_88 0 rfl ?_
        refine y_if_eq (tgt := 98) E dX12_turn_90 (by decide) (fun c19 => ?_) (fun c19 => ?_)
        · replace hv := ite_t hv c19
          refine y_iload E dX12_turn_98 5 rfl ?_
          refine y_lv (lv' := [(0, .ref (w.1 0)), (1, .int l1), (2, .int l2), (3, .int l3), (5, .int l5), (6, .int l6), (7, .int l7), (8, .int s0)]) [1, 2, 3, 4, 6, 7, 8, 0] rfl ?_
          exact hb100 σ l1 l2 l3 l5 l6 l7 s0 l4 hv
        · replace hv := ite_f hv c19
          refine y_iload E dX12_turn_93 7 rfl ?_
          refine y_goto (tgt := 100) E dX12_turn_95 (by decide) ?_
          refine y_lv (lv' := [(0, .ref (w.1 0)), (1, .int l1), (2, .int l2), (3, .int l3), (5, .int l5), (6, .int l6), (7, .int l7), (8, .int s0)]) [1, 2, 3, 4, 6, 7, 8, 0] rfl ?_
          exact hb100 σ l1 l2 l3 l5 l6 l7 s0 l6 hv
      intro σ l1 l2 l3 l4 l5 l6 hv
      unfold VX12_turn_L45 at hv
      refine y_iload E dX12_turn_45 6 rfl ?_
      refine y_bipush (v := 20) E dX12_turn_47 (by decide) ?_
      refine y_icmp_gt (tgt := 122) E dX12_turn_49 (by decide) (fun c12 => ?_) (fun c12 => ?_)
      · replace hv := ite_t hv c12
        refine y_iload_n E dX12_turn_122 3 rfl ?_
        refine y_if_ne (tgt := 131) E dX12_turn_123 (by decide) (fun c13 => ?_) (fun c13 => ?_)
        · replace hv := ite_f hv c13
          refine y_iload E dX12_turn_131 5 rfl ?_
          exact y_iret E dX12_turn_133 hv
        · replace hv := ite_t hv c13
          refine y_iload E dX12_turn_126 4 rfl ?_
          refine y_goto (tgt := 133) E dX12_turn_128 (by decide) ?_
          exact y_iret E dX12_turn_133 hv
      · replace hv := ite_f hv c12
        refine y_aload_n E dX12_turn_52 0 rfl ?_
        refine y_iload_n E dX12_turn_53 1 rfl ?_
        refine y_iload_n E dX12_turn_54 2 rfl ?_
        refine y_iload E dX12_turn_55 6 rfl ?_
        refine y_calli E (y_runV E (rest := []) (kX12_turnedFirst l w E.2.2.1 σ l1 l2 l6 _ hv) (y_cwV 3 E.1.2.2.2.2 wm_626 wm_627 wm_628 wm_479 wm_629 (by decide +kernel) (yRm_le (by decide) (by decide))) (Nat.lt_of_lt_of_le (show 0 < 1 by decide) (by decide)) (mc_X12 (by decide) (by decide)) rfl rfl rfl (Nat.le_of_ble_eq_true rfl) dX12_turn_57) (fun v14 u15 hk => ?_)
        clear hv
        have hv := hk
        clear hk
        refine y_istore (lv' := [(7, .int v14), (0, .ref (w.1 0)), (1, .int l1), (2, .int l2), (3, .int l3), (4, .int l4), (5, .int l5), (6, .int l6)]) E dX12_turn_60 (by decide) rfl ?_
        refine y_iload E dX12_turn_62 0 rfl ?_
        refine y_iconst (v := (-1)) E dX12_turn_64 (by decide) ?_
        refine y_icmp_eq (tgt := 85) E dX12_turn_65 (by decide) (fun c16 => ?_) (fun c16 => ?_)
        · replace hv := ite_t hv c16
          refine y_iconst (v := 0) E dX12_turn_85 (by decide) ?_
          refine y_lv (lv' := [(0, .ref (w.1 0)), (1, .int l1), (2, .int l2), (3, .int l3), (4, .int l4), (5, .int l5), (6, .int l6), (7, .int v14)]) [1, 2, 3, 4, 5, 6, 7, 0] rfl ?_
          exact hb86 u15 l1 l2 l3 l4 l5 l6 v14 0 hv
        · replace hv := ite_f hv c16
          refine y_iload E dX12_turn_68 6 rfl ?_
          refine y_iconst (v := (-1)) E dX12_turn_70 (by decide) ?_
          refine y_icmp_eq (tgt := 81) E dX12_turn_71 (by decide) (fun c17 => ?_) (fun c17 => ?_)
          · replace hv := ite_t hv c17
            refine y_iconst (v := 1) E dX12_turn_81 (by decide) ?_
            refine y_goto (tgt := 86) E dX12_turn_82 (by decide) ?_
            refine y_lv (lv' := [(0, .ref (w.1 0)), (1, .int l1), (2, .int l2), (3, .int l3), (4, .int l4), (5, .int l5), (6, .int l6), (7, .int v14)]) [1, 2, 3, 4, 5, 6, 7, 0] rfl ?_
            exact hb86 u15 l1 l2 l3 l4 l5 l6 v14 1 hv
          · replace hv := ite_f hv c17
            refine y_iload E dX12_turn_74 0 rfl ?_
            refine y_iload E dX12_turn_76 6 rfl ?_
            refine y_icmp_ge (tgt := 85) E dX12_turn_78 (by decide) (fun c18 => ?_) (fun c18 => ?_)
            · replace hv := ite_t hv c18
              refine y_iconst (v := 0) E dX12_turn_85 (by decide) ?_
              refine y_lv (lv' := [(0, .ref (w.1 0)), (1, .int l1), (2, .int l2), (3, .int l3), (4, .int l4), (5, .int l5), (6, .int l6), (7, .int v14)]) [1, 2, 3, 4, 5, 6, 7, 0] rfl ?_
              exact hb86 u15 l1 l2 l3 l4 l5 l6 v14 0 hv
            · replace hv := ite_f hv c18
              refine y_iconst (v := 1) E dX12_turn_81 (by decide) ?_
              refine y_goto (tgt := 86) E dX12_turn_82 (by decide) ?_
              refine y_lv (lv' := [(0, .ref (w.1 0)), (1, .int l1), (2, .int l2), (3, .int l3), (4, .int l4), (5, .int l5), (6, .int l6), (7, .int v14)]) [1, 2, 3, 4, 5, 6, 7, 0] rfl ?_
              exact hb86 u15 l1 l2 l3 l4 l5 l6 v14 1 hv
  refine y_aload_n E dX12_turn_0 0 rfl ?_
  refine y_iload_n E dX12_turn_1 1 rfl ?_
  refine y_calli E (y_runV E (rest := []) (kX12_isThing l w E.2.2.1 σ a1 _ hv) (y_cwV 1 E.1.2.2.2.2 wm_577 wm_578 wm_579 wm_479 wm_580 (by decide +kernel) (yRm_le (by decide) (by decide))) (Nat.lt_of_lt_of_le (show 0 < 1 by decide) (by decide)) (mc_X12 (by decide) (by decide)) rfl rfl rfl (Nat.le_of_ble_eq_true rfl) dX12_turn_2) (fun v1 u2 hk => ?_)
  clear hv
  have hv := hk
  clear hk
  refine y_if_ne (tgt := 11) E dX12_turn_5 (by decide) (fun c3 => ?_) (fun c3 => ?_)
  · replace hv := ite_f hv c3
    refine y_iload_n E dX12_turn_11 2 rfl ?_
    refine y_calli E (y_runS E (rest := []) (kX12_isCell l w E.2.2.1 u2 a2 _ hv) (y_cwS 1 E.1.2.2.2.2 wm_482 wm_487 wm_479 wm_488 (by decide +kernel) (yRm_le (by decide) (by decide))) rfl rfl (Nat.le_of_ble_eq_true rfl) dX12_turn_12) (fun v4 u5 hk => ?_)
    clear hv
    have hv := hk
    clear hk
    refine y_if_eq (tgt := 27) E dX12_turn_15 (by decide) (fun c6 => ?_) (fun c6 => ?_)
    · replace hv := ite_t hv c6
      refine y_bipush (v := (-7)) E dX12_turn_27 (by decide) ?_
      exact y_iret E dX12_turn_29 hv
    · replace hv := ite_f hv c6
      refine y_iload_n E dX12_turn_18 3 rfl ?_
      refine y_iconst (v := 0) E dX12_turn_19 (by decide) ?_
      refine y_iconst (v := 1) E dX12_turn_20 (by decide) ?_
      refine y_calli E (y_runS E (rest := []) (kX12_in l w E.2.2.1 u5 a3 0 1 _ hv) (y_cwS 3 E.1.2.2.2.2 wm_477 wm_478 wm_479 wm_480 (by decide +kernel) (yRm_le (by decide) (by decide))) rfl rfl (Nat.le_of_ble_eq_true rfl) dX12_turn_21) (fun v7 u8 hk => ?_)
      clear hv
      have hv := hk
      clear hk
      refine y_if_ne (tgt := 30) E dX12_turn_24 (by decide) (fun c9 => ?_) (fun c9 => ?_)
      · replace hv := ite_f hv c9
        refine y_iconst (v := (-1)) E dX12_turn_30 (by decide) ?_
        refine y_istore (lv' := [(4, .int (-1)), (0, .ref (w.1 0)), (1, .int a1), (2, .int a2), (3, .int a3)]) E dX12_turn_31 (by decide) rfl ?_
        refine y_aload_n E dX12_turn_33 1 rfl ?_
        refine y_iload_n E dX12_turn_34 2 rfl ?_
        refine y_iload_n E dX12_turn_35 3 rfl ?_
        refine y_iconst (v := (-1)) E dX12_turn_36 (by decide) ?_
        refine y_calli E (y_runV E (rest := []) (kX12_turnedFirst l w E.2.2.1 u8 a1 a2 (-1) _ hv) (y_cwV 3 E.1.2.2.2.2 wm_626 wm_627 wm_628 wm_479 wm_629 (by decide +kernel) (yRm_le (by decide) (by decide))) (Nat.lt_of_lt_of_le (show 0 < 1 by decide) (by decide)) (mc_X12 (by decide) (by decide)) rfl rfl rfl (Nat.le_of_ble_eq_true rfl) dX12_turn_37) (fun v10 u11 hk => ?_)
        clear hv
        have hv := hk
        clear hk
        refine y_istore (lv' := [(5, .int v10), (4, .int (-1)), (0, .ref (w.1 0)), (1, .int a1), (2, .int a2), (3, .int a3)]) E dX12_turn_40 (by decide) rfl ?_
        refine y_iconst (v := 0) E dX12_turn_42 (by decide) ?_
        refine y_istore (lv' := [(6, .int 0), (5, .int v10), (4, .int (-1)), (0, .ref (w.1 0)), (1, .int a1), (2, .int a2), (3, .int a3)]) E dX12_turn_43 (by decide) rfl ?_
        refine y_lv (lv' := [(0, .ref (w.1 0)), (1, .int a1), (2, .int a2), (3, .int a3), (4, .int (-1)), (5, .int v10), (6, .int 0)]) [3, 4, 5, 6, 2, 1, 0] rfl ?_
        obtain ⟨n0, hv⟩ := hv
        exact hL45 n0 u11 a1 a2 a3 (-1) v10 0 hv
      · replace hv := ite_t hv c9
        refine y_bipush (v := (-7)) E dX12_turn_27 (by decide) ?_
        exact y_iret E dX12_turn_29 hv
  · replace hv := ite_t hv c3
    refine y_bipush (v := (-5)) E dX12_turn_8 (by decide) ?_
    exact y_iret E dX12_turn_10 hv
theorem dX12_netted_0 : decode cX12_netted 0 = .ok (.iconst 0, 1) := by decide +kernel
theorem dX12_netted_1 : decode cX12_netted 1 = .ok (.istore_n 2, 1) := by decide +kernel
theorem dX12_netted_2 : decode cX12_netted 2 = .ok (.iconst 0, 1) := by decide +kernel
theorem dX12_netted_3 : decode cX12_netted 3 = .ok (.istore_n 3, 1) := by decide +kernel
theorem dX12_netted_4 : decode cX12_netted 4 = .ok (.iload_n 3, 1) := by decide +kernel
theorem dX12_netted_5 : decode cX12_netted 5 = .ok (.aload_n 0, 1) := by decide +kernel
theorem dX12_netted_6 : decode cX12_netted 6 = .ok (.getfield 87, 3) := by decide +kernel
theorem dX12_netted_9 : decode cX12_netted 9 = .ok (.if_icmp .ge 31, 3) := by decide +kernel
theorem dX12_netted_12 : decode cX12_netted 12 = .ok (.iload_n 2, 1) := by decide +kernel
theorem dX12_netted_13 : decode cX12_netted 13 = .ok (.aload_n 0, 1) := by decide +kernel
theorem dX12_netted_14 : decode cX12_netted 14 = .ok (.iconst 1, 1) := by decide +kernel
theorem dX12_netted_15 : decode cX12_netted 15 = .ok (.aload_n 0, 1) := by decide +kernel
theorem dX12_netted_16 : decode cX12_netted 16 = .ok (.iload_n 3, 1) := by decide +kernel
theorem dX12_netted_17 : decode cX12_netted 17 = .ok (.iload_n 1, 1) := by decide +kernel
theorem dX12_netted_18 : decode cX12_netted 18 = .ok (.invokevirtual 209, 3) := by decide +kernel
theorem dX12_netted_21 : decode cX12_netted 21 = .ok (.invokevirtual 83, 3) := by decide +kernel
theorem dX12_netted_24 : decode cX12_netted 24 = .ok (.ifCond .eq 7, 3) := by decide +kernel
theorem dX12_netted_27 : decode cX12_netted 27 = .ok (.iconst 1, 1) := by decide +kernel
theorem dX12_netted_28 : decode cX12_netted 28 = .ok (.goto 4, 3) := by decide +kernel
theorem dX12_netted_31 : decode cX12_netted 31 = .ok (.iconst 0, 1) := by decide +kernel
theorem dX12_netted_32 : decode cX12_netted 32 = .ok (.iadd, 1) := by decide +kernel
theorem dX12_netted_33 : decode cX12_netted 33 = .ok (.istore_n 2, 1) := by decide +kernel
theorem dX12_netted_34 : decode cX12_netted 34 = .ok (.iinc 3 1, 3) := by decide +kernel
theorem dX12_netted_37 : decode cX12_netted 37 = .ok (.goto (-33), 3) := by decide +kernel
theorem dX12_netted_40 : decode cX12_netted 40 = .ok (.iload_n 2, 1) := by decide +kernel
theorem dX12_netted_41 : decode cX12_netted 41 = .ok (.ireturn, 1) := by decide +kernel
set_option maxRecDepth 100000 in
set_option maxHeartbeats 4000000 in
theorem kX12_netted (l : Launch) (w : wT) (hw : yOk w 20) (σ : Hp) (a1 : Int32) (K : Int32 → Hp → Prop) (hv : VX12_netted K σ a1) : yMet l w mcf 20 yX12_netted cX12_netted 4 (some .int) 7 [.ref (w.1 0), .int a1] σ (yQi w mcf 20 K) := by
  unfold VX12_netted at hv
  refine y_start (lv0 := [(0, .ref (w.1 0)), (1, .int a1)]) (by decide +kernel) (own := RX12) rfl hw (Nat.le_of_ble_eq_true rfl) rfl (fun p e s m below meth c A E => ?_)
  have hL4 : ∀ (n4 : Nat) (σ : Hp) (l1 : Int32) (l2 : Int32) (l3 : Int32), VX12_netted_L4 K n4 σ l1 l2 l3 → YY p l e (yRm 7) s m [.ref (w.1 0), .int a1].toArray below meth c w mcf 20 A (MQ below (yQi w mcf 20 K A) [.ref (w.1 0), .int a1].toArray s 0 0 A) 4 σ 4 [(0, .ref (w.1 0)), (1, .int l1), (2, .int l2), (3, .int l3)] [] := by
    intro n4
    induction n4 with
    | zero => exact fun _ _ _ _ hv => (by unfold VX12_netted_L4 at hv; exact hv.elim)
    | succ n4 ih4 =>
      intro σ l1 l2 l3 hv
      unfold VX12_netted_L4 at hv
      refine y_iload_n E dX12_netted_4 3 rfl ?_
      refine y_aload_n E dX12_netted_5 0 rfl ?_
      refine gf_X12_2 E (by decide) (by decide) wm_489 dX12_netted_6 ?_
      refine y_icmp_ge (tgt := 40) E dX12_netted_9 (by decide) (fun c1 => ?_) (fun c1 => ?_)
      · replace hv := ite_t hv c1
        refine y_iload_n E dX12_netted_40 2 rfl ?_
        exact y_iret E dX12_netted_41 hv
      · replace hv := ite_f hv c1
        refine y_iload_n E dX12_netted_12 2 rfl ?_
        refine y_aload_n E dX12_netted_13 0 rfl ?_
        refine y_iconst (v := 1) E dX12_netted_14 (by decide) ?_
        refine y_aload_n E dX12_netted_15 0 rfl ?_
        refine y_iload_n E dX12_netted_16 3 rfl ?_
        refine y_iload_n E dX12_netted_17 1 rfl ?_
        refine y_calli E (y_runV E (rest := [.int 1, .ref (w.1 0), .int l2]) (kX12_cellBehind l w E.2.2.1 σ l3 l1 _ hv) (y_cwV 2 E.1.2.2.2.2 wm_607 wm_608 wm_609 wm_479 wm_610 (by decide +kernel) (yRm_le (by decide) (by decide))) (Nat.lt_of_lt_of_le (show 0 < 1 by decide) (by decide)) (mc_X12 (by decide) (by decide)) rfl rfl rfl (Nat.le_of_ble_eq_true rfl) dX12_netted_18) (fun v2 u3 hk => ?_)
        clear hv
        have hv := hk
        clear hk
        refine y_calli E (y_runV E (rest := [.int l2]) (kX12_has l w E.2.2.1 u3 1 v2 _ hv) (y_cwV 2 E.1.2.2.2.2 wm_483 wm_484 wm_485 wm_479 wm_486 (by decide +kernel) (yRm_le (by decide) (by decide))) (Nat.lt_of_lt_of_le (show 0 < 1 by decide) (by decide)) (mc_X12 (by decide) (by decide)) rfl rfl rfl (Nat.le_of_ble_eq_true rfl) dX12_netted_21) (fun v4 u5 hk => ?_)
        clear hv
        have hv := hk
        clear hk
        refine y_if_eq (tgt := 31) E dX12_netted_24 (by decide) (fun c6 => ?_) (fun c6 => ?_)
        · replace hv := ite_t hv c6
          refine y_iconst (v := 0) E dX12_netted_31 (by decide) ?_
          refine y_iadd E dX12_netted_32 ?_
          refine y_nmi (fun x7 hx7 => ?_)
          replace hv := hv x7 hx7
          refine y_istore_n (lv' := [(2, .int x7), (0, .ref (w.1 0)), (1, .int l1), (3, .int l3)]) E dX12_netted_33 (by decide) rfl ?_
          obtain ⟨x8, hx8⟩ : ∃ z : Int32, z = l3 + 1 := ⟨_, rfl⟩
          replace hv := hv x8 hx8
          refine y_iinc (v := x8) (lv' := [(3, .int x8), (2, .int x7), (0, .ref (w.1 0)), (1, .int l1)]) E dX12_netted_34 3 rfl (by rw [hx8]; rfl) (by decide) rfl ?_
          refine y_goto (tgt := 4) E dX12_netted_37 (by decide) ?_
          refine y_lv (lv' := [(0, .ref (w.1 0)), (1, .int l1), (2, .int x7), (3, .int x8)]) [2, 3, 1, 0] rfl ?_
          exact ih4 u5 l1 x7 x8 hv
        · replace hv := ite_f hv c6
          refine y_iconst (v := 1) E dX12_netted_27 (by decide) ?_
          refine y_goto (tgt := 32) E dX12_netted_28 (by decide) ?_
          refine y_iadd E dX12_netted_32 ?_
          refine y_nmi (fun x9 hx9 => ?_)
          replace hv := hv x9 hx9
          refine y_istore_n (lv' := [(2, .int x9), (0, .ref (w.1 0)), (1, .int l1), (3, .int l3)]) E dX12_netted_33 (by decide) rfl ?_
          obtain ⟨x10, hx10⟩ : ∃ z : Int32, z = l3 + 1 := ⟨_, rfl⟩
          replace hv := hv x10 hx10
          refine y_iinc (v := x10) (lv' := [(3, .int x10), (2, .int x9), (0, .ref (w.1 0)), (1, .int l1)]) E dX12_netted_34 3 rfl (by rw [hx10]; rfl) (by decide) rfl ?_
          refine y_goto (tgt := 4) E dX12_netted_37 (by decide) ?_
          refine y_lv (lv' := [(0, .ref (w.1 0)), (1, .int l1), (2, .int x9), (3, .int x10)]) [2, 3, 1, 0] rfl ?_
          exact ih4 u5 l1 x9 x10 hv
  refine y_iconst (v := 0) E dX12_netted_0 (by decide) ?_
  refine y_istore_n (lv' := [(2, .int 0), (0, .ref (w.1 0)), (1, .int a1)]) E dX12_netted_1 (by decide) rfl ?_
  refine y_iconst (v := 0) E dX12_netted_2 (by decide) ?_
  refine y_istore_n (lv' := [(3, .int 0), (2, .int 0), (0, .ref (w.1 0)), (1, .int a1)]) E dX12_netted_3 (by decide) rfl ?_
  refine y_lv (lv' := [(0, .ref (w.1 0)), (1, .int a1), (2, .int 0), (3, .int 0)]) [2, 3, 1, 0] rfl ?_
  obtain ⟨n0, hv⟩ := hv
  exact hL4 n0 σ a1 0 0 hv
theorem dX12_net_0 : decode cX12_net 0 = .ok (.iload_n 1, 1) := by decide +kernel
theorem dX12_net_1 : decode cX12_net 1 = .ok (.invokestatic 206, 3) := by decide +kernel
theorem dX12_net_4 : decode cX12_net 4 = .ok (.ifCond .eq 12, 3) := by decide +kernel
theorem dX12_net_7 : decode cX12_net 7 = .ok (.iload_n 2, 1) := by decide +kernel
theorem dX12_net_8 : decode cX12_net 8 = .ok (.iconst 0, 1) := by decide +kernel
theorem dX12_net_9 : decode cX12_net 9 = .ok (.iconst 1, 1) := by decide +kernel
theorem dX12_net_10 : decode cX12_net 10 = .ok (.invokestatic 75, 3) := by decide +kernel
theorem dX12_net_13 : decode cX12_net 13 = .ok (.ifCond .ne 6, 3) := by decide +kernel
theorem dX12_net_16 : decode cX12_net 16 = .ok (.bipush (-2), 2) := by decide +kernel
theorem dX12_net_18 : decode cX12_net 18 = .ok (.ireturn, 1) := by decide +kernel
theorem dX12_net_19 : decode cX12_net 19 = .ok (.iconst (-1), 1) := by decide +kernel
theorem dX12_net_20 : decode cX12_net 20 = .ok (.istore_n 3, 1) := by decide +kernel
theorem dX12_net_21 : decode cX12_net 21 = .ok (.aload_n 0, 1) := by decide +kernel
theorem dX12_net_22 : decode cX12_net 22 = .ok (.iload_n 1, 1) := by decide +kernel
theorem dX12_net_23 : decode cX12_net 23 = .ok (.invokevirtual 224, 3) := by decide +kernel
theorem dX12_net_26 : decode cX12_net 26 = .ok (.istore 4, 2) := by decide +kernel
theorem dX12_net_28 : decode cX12_net 28 = .ok (.iconst 0, 1) := by decide +kernel
theorem dX12_net_29 : decode cX12_net 29 = .ok (.istore 5, 2) := by decide +kernel
theorem dX12_net_31 : decode cX12_net 31 = .ok (.iload 5, 2) := by decide +kernel
theorem dX12_net_33 : decode cX12_net 33 = .ok (.bipush 30, 2) := by decide +kernel
theorem dX12_net_35 : decode cX12_net 35 = .ok (.if_icmp .ge 94, 3) := by decide +kernel
theorem dX12_net_38 : decode cX12_net 38 = .ok (.aload_n 0, 1) := by decide +kernel
theorem dX12_net_39 : decode cX12_net 39 = .ok (.iconst 0, 1) := by decide +kernel
theorem dX12_net_40 : decode cX12_net 40 = .ok (.iload 5, 2) := by decide +kernel
theorem dX12_net_42 : decode cX12_net 42 = .ok (.invokevirtual 83, 3) := by decide +kernel
theorem dX12_net_45 : decode cX12_net 45 = .ok (.ifCond .ne 78, 3) := by decide +kernel
theorem dX12_net_48 : decode cX12_net 48 = .ok (.aload_n 0, 1) := by decide +kernel
theorem dX12_net_49 : decode cX12_net 49 = .ok (.iconst 1, 1) := by decide +kernel
theorem dX12_net_50 : decode cX12_net 50 = .ok (.iload 5, 2) := by decide +kernel
theorem dX12_net_52 : decode cX12_net 52 = .ok (.invokevirtual 83, 3) := by decide +kernel
theorem dX12_net_55 : decode cX12_net 55 = .ok (.ifCond .ne 68, 3) := by decide +kernel
theorem dX12_net_58 : decode cX12_net 58 = .ok (.aload_n 0, 1) := by decide +kernel
theorem dX12_net_59 : decode cX12_net 59 = .ok (.getfield 7, 3) := by decide +kernel
theorem dX12_net_62 : decode cX12_net 62 = .ok (.iconst 1, 1) := by decide +kernel
theorem dX12_net_63 : decode cX12_net 63 = .ok (.dup2, 1) := by decide +kernel
theorem dX12_net_64 : decode cX12_net 64 = .ok (.iaload, 1) := by decide +kernel
theorem dX12_net_65 : decode cX12_net 65 = .ok (.iconst 1, 1) := by decide +kernel
theorem dX12_net_66 : decode cX12_net 66 = .ok (.iload 5, 2) := by decide +kernel
theorem dX12_net_68 : decode cX12_net 68 = .ok (.ishl, 1) := by decide +kernel
theorem dX12_net_69 : decode cX12_net 69 = .ok (.ior, 1) := by decide +kernel
theorem dX12_net_70 : decode cX12_net 70 = .ok (.iastore, 1) := by decide +kernel
theorem dX12_net_71 : decode cX12_net 71 = .ok (.aload_n 0, 1) := by decide +kernel
theorem dX12_net_72 : decode cX12_net 72 = .ok (.iload_n 1, 1) := by decide +kernel
theorem dX12_net_73 : decode cX12_net 73 = .ok (.invokevirtual 224, 3) := by decide +kernel
theorem dX12_net_76 : decode cX12_net 76 = .ok (.istore 6, 2) := by decide +kernel
theorem dX12_net_78 : decode cX12_net 78 = .ok (.aload_n 0, 1) := by decide +kernel
theorem dX12_net_79 : decode cX12_net 79 = .ok (.getfield 7, 3) := by decide +kernel
theorem dX12_net_82 : decode cX12_net 82 = .ok (.iconst 1, 1) := by decide +kernel
theorem dX12_net_83 : decode cX12_net 83 = .ok (.dup2, 1) := by decide +kernel
theorem dX12_net_84 : decode cX12_net 84 = .ok (.iaload, 1) := by decide +kernel
theorem dX12_net_85 : decode cX12_net 85 = .ok (.iconst 1, 1) := by decide +kernel
theorem dX12_net_86 : decode cX12_net 86 = .ok (.iload 5, 2) := by decide +kernel
theorem dX12_net_88 : decode cX12_net 88 = .ok (.ishl, 1) := by decide +kernel
theorem dX12_net_89 : decode cX12_net 89 = .ok (.iconst (-1), 1) := by decide +kernel
theorem dX12_net_90 : decode cX12_net 90 = .ok (.ixor, 1) := by decide +kernel
theorem dX12_net_91 : decode cX12_net 91 = .ok (.iand, 1) := by decide +kernel
theorem dX12_net_92 : decode cX12_net 92 = .ok (.iastore, 1) := by decide +kernel
theorem dX12_net_93 : decode cX12_net 93 = .ok (.iload 6, 2) := by decide +kernel
theorem dX12_net_95 : decode cX12_net 95 = .ok (.iload 4, 2) := by decide +kernel
theorem dX12_net_97 : decode cX12_net 97 = .ok (.if_icmp .le 8, 3) := by decide +kernel
theorem dX12_net_100 : decode cX12_net 100 = .ok (.iload 5, 2) := by decide +kernel
theorem dX12_net_102 : decode cX12_net 102 = .ok (.goto 4, 3) := by decide +kernel
theorem dX12_net_105 : decode cX12_net 105 = .ok (.iload_n 3, 1) := by decide +kernel
theorem dX12_net_106 : decode cX12_net 106 = .ok (.istore_n 3, 1) := by decide +kernel
theorem dX12_net_107 : decode cX12_net 107 = .ok (.iload 6, 2) := by decide +kernel
theorem dX12_net_109 : decode cX12_net 109 = .ok (.iload 4, 2) := by decide +kernel
theorem dX12_net_111 : decode cX12_net 111 = .ok (.if_icmp .le 8, 3) := by decide +kernel
theorem dX12_net_114 : decode cX12_net 114 = .ok (.iload 6, 2) := by decide +kernel
theorem dX12_net_116 : decode cX12_net 116 = .ok (.goto 5, 3) := by decide +kernel
theorem dX12_net_119 : decode cX12_net 119 = .ok (.iload 4, 2) := by decide +kernel
theorem dX12_net_121 : decode cX12_net 121 = .ok (.istore 4, 2) := by decide +kernel
theorem dX12_net_123 : decode cX12_net 123 = .ok (.iinc 5 1, 3) := by decide +kernel
theorem dX12_net_126 : decode cX12_net 126 = .ok (.goto (-95), 3) := by decide +kernel
theorem dX12_net_129 : decode cX12_net 129 = .ok (.iload_n 2, 1) := by decide +kernel
theorem dX12_net_130 : decode cX12_net 130 = .ok (.ifCond .ne 7, 3) := by decide +kernel
theorem dX12_net_133 : decode cX12_net 133 = .ok (.iload_n 3, 1) := by decide +kernel
theorem dX12_net_134 : decode cX12_net 134 = .ok (.goto 5, 3) := by decide +kernel
theorem dX12_net_137 : decode cX12_net 137 = .ok (.iload 4, 2) := by decide +kernel
theorem dX12_net_139 : decode cX12_net 139 = .ok (.ireturn, 1) := by decide +kernel
set_option maxRecDepth 100000 in
set_option maxHeartbeats 4000000 in
theorem kX12_net (l : Launch) (w : wT) (hw : yOk w 20) (σ : Hp) (a1 : Int32) (a2 : Int32) (K : Int32 → Hp → Prop) (hv : VX12_net K σ a1 a2) : yMet l w mcf 20 yX12_net cX12_net 7 (some .int) 8 [.ref (w.1 0), .int a1, .int a2] σ (yQi w mcf 20 K) := by
  unfold VX12_net at hv
  refine y_start (lv0 := [(0, .ref (w.1 0)), (1, .int a1), (2, .int a2)]) (by decide +kernel) (own := RX12) rfl hw (Nat.le_of_ble_eq_true rfl) rfl (fun p e s m below meth c A E => ?_)
  have hL31 : ∀ (n31 : Nat) (σ : Hp) (l1 : Int32) (l2 : Int32) (l3 : Int32) (l4 : Int32) (l5 : Int32), VX12_net_L31 K n31 σ l1 l2 l3 l4 l5 → YY p l e (yRm 8) s m [.ref (w.1 0), .int a1, .int a2].toArray below meth c w mcf 20 A (MQ below (yQi w mcf 20 K A) [.ref (w.1 0), .int a1, .int a2].toArray s 0 0 A) 7 σ 31 [(0, .ref (w.1 0)), (1, .int l1), (2, .int l2), (3, .int l3), (4, .int l4), (5, .int l5)] [] := by
    intro n31
    induction n31 with
    | zero => exact fun _ _ _ _ _ _ hv => (by unfold VX12_net_L31 at hv; exact hv.elim)
    | succ n31 ih31 =>
      have hb106 : ∀ (σ : Hp) (l1 : Int32) (l2 : Int32) (l4 : Int32) (l5 : Int32) (l6 : Int32) (s0 : Int32), VX12_net_b106 K (VX12_net_L31 K n31) σ l1 l2 l4 l5 l6 s0 → YY p l e (yRm 8) s m [.ref (w.1 0), .int a1, .int a2].toArray below meth c w mcf 20 A (MQ below (yQi w mcf 20 K A) [.ref (w.1 0), .int a1, .int a2].toArray s 0 0 A) 7 σ 106 [(0, .ref (w.1 0)), (1, .int l1), (2, .int l2), (4, .int l4), (5, .int l5), (6, .int l6)] [.int s0] := by
        intro σ l1 l2 l4 l5 l6 s0 hv
        unfold VX12_net_b106 at hv
        refine y_istore_n (lv' := [(3, .int s0), (0, .ref (w.1 0)), (1, .int l1), (2, .int l2), (4, .int l4), (5, .int l5), (6, .int l6)]) E dX12_net_106 (by decide) rfl ?_
        refine y_iload E dX12_net_107 6 rfl ?_
        refine y_iload E dX12_net_109 4 rfl ?_
        refine y_icmp_le (tgt := 119) E dX12_net_111 (by decide) (fun c24 => ?_) (fun c24 => ?_)
        · replace hv := ite_t hv c24
          refine y_iload E dX12_net_119 4 rfl ?_
          refine y_istore (lv' := [(4, .int l4), (3, .int s0), (0, .ref (w.1 0)), (1, .int l1), (2, .int l2), (5, .int l5), (6, .int l6)]) E dX12_net_121 (by decide) rfl ?_
          obtain ⟨x25, hx25⟩ : ∃ z : Int32, z = l5 + 1 := ⟨_, rfl⟩
          replace hv := hv x25 hx25
          refine y_iinc (v := x25) (lv' := [(5, .int x25), (4, .int l4), (3, .int s0), (0, .ref (w.1 0)), (1, .int l1), (2, .int l2), (6, .int l6)]) E dX12_net_123 5 rfl (by rw [hx25]; rfl) (by decide) rfl ?_
          refine y_goto (tgt := 31) E dX12_net_126 (by decide) ?_
          refine y_lv (lv' := [(0, .ref (w.1 0)), (1, .int l1), (2, .int l2), (3, .int s0), (4, .int l4), (5, .int x25)]) [3, 4, 5, 2, 1, 0] rfl ?_
          exact ih31 σ l1 l2 s0 l4 x25 hv
        · replace hv := ite_f hv c24
          refine y_iload E dX12_net_114 6 rfl ?_
          refine y_goto (tgt := 121) E dX12_net_116 (by decide) ?_
          refine y_istore (lv' := [(4, .int l6), (3, .int s0), (0, .ref (w.1 0)), (1, .int l1), (2, .int l2), (5, .int l5), (6, .int l6)]) E dX12_net_121 (by decide) rfl ?_
          obtain ⟨x26, hx26⟩ : ∃ z : Int32, z = l5 + 1 := ⟨_, rfl⟩
          replace hv := hv x26 hx26
          refine y_iinc (v := x26) (lv' := [(5, .int x26), (4, .int l6), (3, .int s0), (0, .ref (w.1 0)), (1, .int l1), (2, .int l2), (6, .int l6)]) E dX12_net_123 5 rfl (by rw [hx26]; rfl) (by decide) rfl ?_
          refine y_goto (tgt := 31) E dX12_net_126 (by decide) ?_
          refine y_lv (lv' := [(0, .ref (w.1 0)), (1, .int l1), (2, .int l2), (3, .int s0), (4, .int l6), (5, .int x26)]) [3, 4, 5, 2, 1, 0] rfl ?_
          exact ih31 σ l1 l2 s0 l6 x26 hv
      intro σ l1 l2 l3 l4 l5 hv
      unfold VX12_net_L31 at hv
      refine y_iload E dX12_net_31 5 rfl ?_
      refine y_bipush (v := 30) E dX12_net_33 (by decide) ?_
      refine y_icmp_ge (tgt := 129) E dX12_net_35 (by decide) (fun c9 => ?_) (fun c9 => ?_)
      · replace hv := ite_t hv c9
        refine y_iload_n E dX12_net_129 2 rfl ?_
        refine y_if_ne (tgt := 137) E dX12_net_130 (by decide) (fun c10 => ?_) (fun c10 => ?_)
        · replace hv := ite_f hv c10
          refine y_iload E dX12_net_137 4 rfl ?_
          exact y_iret E dX12_net_139 hv
        · replace hv := ite_t hv c10
          refine y_iload_n E dX12_net_133 3 rfl ?_
          refine y_goto (tgt := 139) E dX12_net_134 (by decide) ?_
          exact y_iret E dX12_net_139 hv
      · replace hv := ite_f hv c9
        refine y_aload_n E dX12_net_38 0 rfl ?_
        refine y_iconst (v := 0) E dX12_net_39 (by decide) ?_
        refine y_iload E dX12_net_40 5 rfl ?_
        refine y_calli E (y_runV E (rest := []) (kX12_has l w E.2.2.1 σ 0 l5 _ hv) (y_cwV 2 E.1.2.2.2.2 wm_483 wm_484 wm_485 wm_479 wm_486 (by decide +kernel) (yRm_le (by decide) (by decide))) (Nat.lt_of_lt_of_le (show 0 < 1 by decide) (by decide)) (mc_X12 (by decide) (by decide)) rfl rfl rfl (Nat.le_of_ble_eq_true rfl) dX12_net_42) (fun v11 u12 hk => ?_)
        clear hv
        have hv := hk
        clear hk
        refine y_if_ne (tgt := 123) E dX12_net_45 (by decide) (fun c13 => ?_) (fun c13 => ?_)
        · replace hv := ite_f hv c13
          obtain ⟨x14, hx14⟩ : ∃ z : Int32, z = l5 + 1 := ⟨_, rfl⟩
          replace hv := hv x14 hx14
          refine y_iinc (v := x14) (lv' := [(5, .int x14), (0, .ref (w.1 0)), (1, .int l1), (2, .int l2), (3, .int l3), (4, .int l4)]) E dX12_net_123 5 rfl (by rw [hx14]; rfl) (by decide) rfl ?_
          refine y_goto (tgt := 31) E dX12_net_126 (by decide) ?_
          refine y_lv (lv' := [(0, .ref (w.1 0)), (1, .int l1), (2, .int l2), (3, .int l3), (4, .int l4), (5, .int x14)]) [1, 2, 3, 4, 5, 0] rfl ?_
          exact ih31 u12 l1 l2 l3 l4 x14 hv
        · replace hv := ite_t hv c13
          refine y_aload_n E dX12_net_48 0 rfl ?_
          refine y_iconst (v := 1) E dX12_net_49 (by decide) ?_
          refine y_iload E dX12_net_50 5 rfl ?_
          refine y_calli E (y_runV E (rest := []) (kX12_has l w E.2.2.1 u12 1 l5 _ hv) (y_cwV 2 E.1.2.2.2.2 wm_483 wm_484 wm_485 wm_479 wm_486 (by decide +kernel) (yRm_le (by decide) (by decide))) (Nat.lt_of_lt_of_le (show 0 < 1 by decide) (by decide)) (mc_X12 (by decide) (by decide)) rfl rfl rfl (Nat.le_of_ble_eq_true rfl) dX12_net_52) (fun v15 u16 hk => ?_)
          clear hv
          have hv := hk
          clear hk
          refine y_if_ne (tgt := 123) E dX12_net_55 (by decide) (fun c17 => ?_) (fun c17 => ?_)
          · replace hv := ite_f hv c17
            obtain ⟨x18, hx18⟩ : ∃ z : Int32, z = l5 + 1 := ⟨_, rfl⟩
            replace hv := hv x18 hx18
            refine y_iinc (v := x18) (lv' := [(5, .int x18), (0, .ref (w.1 0)), (1, .int l1), (2, .int l2), (3, .int l3), (4, .int l4)]) E dX12_net_123 5 rfl (by rw [hx18]; rfl) (by decide) rfl ?_
            refine y_goto (tgt := 31) E dX12_net_126 (by decide) ?_
            refine y_lv (lv' := [(0, .ref (w.1 0)), (1, .int l1), (2, .int l2), (3, .int l3), (4, .int l4), (5, .int x18)]) [1, 2, 3, 4, 5, 0] rfl ?_
            exact ih31 u16 l1 l2 l3 l4 x18 hv
          · replace hv := ite_t hv c17
            refine y_aload_n E dX12_net_58 0 rfl ?_
            refine gf_X12_0 E (by decide) (by decide) wm_481 dX12_net_59 ?_
            refine y_iconst (v := 1) E dX12_net_62 (by decide) ?_
            refine y_dup2 E dX12_net_63 rfl rfl ?_
            refine y_ialdc (j := 1) E (Nat.lt_of_lt_of_le (show 1 < 2 by decide) (by decide)) (mc_m_sets (by decide) (by decide)) (by decide) (by decide) dX12_net_64 ?_
            refine y_iconst (v := 1) E dX12_net_65 (by decide) ?_
            refine y_iload E dX12_net_66 5 rfl ?_
            refine y_ishl E dX12_net_68 ?_
            refine y_ior E dX12_net_69 ?_
            refine y_iastc (j := 1) E (Nat.lt_of_lt_of_le (show 1 < 2 by decide) (by decide)) (fun _ => mc_m_sets (by decide) (by decide)) (by decide) (by decide) dX12_net_70 ?_
            refine y_nmH (fun u19 hu19 => ?_)
            replace hv := hv u19 hu19
            refine y_aload_n E dX12_net_71 0 rfl ?_
            refine y_iload_n E dX12_net_72 1 rfl ?_
            refine y_calli E (y_runV E (rest := []) (kX12_netted l w E.2.2.1 u19 l1 _ hv) (y_cwV 1 E.1.2.2.2.2 wm_630 wm_631 wm_632 wm_479 wm_633 (by decide +kernel) (yRm_le (by decide) (by decide))) (Nat.lt_of_lt_of_le (show 0 < 1 by decide) (by decide)) (mc_X12 (by decide) (by decide)) rfl rfl rfl (Nat.le_of_ble_eq_true rfl) dX12_net_73) (fun v20 u21 hk => ?_)
            clear hv
            have hv := hk
            clear hk
            refine y_istore (lv' := [(6, .int v20), (0, .ref (w.1 0)), (1, .int l1), (2, .int l2), (3, .int l3), (4, .int l4), (5, .int l5)]) E dX12_net_76 (by decide) rfl ?_
            refine y_aload_n E dX12_net_78 1 rfl ?_
            refine gf_X12_0 E (by decide) (by decide) wm_481 dX12_net_79 ?_
            refine y_iconst (v := 1) E dX12_net_82 (by decide) ?_
            refine y_dup2 E dX12_net_83 rfl rfl ?_
            refine y_ialdc (j := 1) E (Nat.lt_of_lt_of_le (show 1 < 2 by decide) (by decide)) (mc_m_sets (by decide) (by decide)) (by decide) (by decide) dX12_net_84 ?_
            refine y_iconst (v := 1) E dX12_net_85 (by decide) ?_
            refine y_iload E dX12_net_86 6 rfl ?_
            refine y_ishl E dX12_net_88 ?_
            refine y_iconst (v := (-1)) E dX12_net_89 (by decide) ?_
            refine y_ixor E dX12_net_90 ?_
            refine y_iand E dX12_net_91 ?_
            refine y_iastc (j := 1) E (Nat.lt_of_lt_of_le (show 1 < 2 by decide) (by decide)) (fun _ => mc_m_sets (by decide) (by decide)) (by decide) (by decide) dX12_net_92 ?_
            refine y_nmH (fun u22 hu22 => ?_)
            replace hv := hv u22 hu22
            refine y_iload E dX12_net_93 0 rfl ?_
            refine y_iload E dX12_net_95 5 rfl ?_
            refine y_icmp_le (tgt := 105) E dX12_net_97 (by decide) (fun c23 => ?_) (fun c23 => ?_)
            · replace hv := ite_t hv c23
              refine y_iload_n E dX12_net_105 4 rfl ?_
              refine y_lv (lv' := [(0, .ref (w.1 0)), (1, .int l1), (2, .int l2), (4, .int l4), (5, .int l5), (6, .int v20)]) [1, 2, 3, 5, 6, 0] rfl ?_
              exact hb106 u22 l1 l2 l4 l5 v20 l3 hv
            · replace hv := ite_f hv c23
              refine y_iload E dX12_net_100 6 rfl ?_
              refine y_goto (tgt := 106) E dX12_net_102 (by decide) ?_
              refine y_lv (lv' := [(0, .ref (w.1 0)), (1, .int l1), (2, .int l2), (4, .int l4), (5, .int l5), (6, .int v20)]) [1, 2, 3, 5, 6, 0] rfl ?_
              exact hb106 u22 l1 l2 l4 l5 v20 l5 hv
  refine y_iload_n E dX12_net_0 1 rfl ?_
  refine y_calli E (y_runS E (rest := []) (kX12_areSteps l w E.2.2.1 σ a1 _ hv) (y_cwS 1 E.1.2.2.2.2 wm_606 wm_611 wm_479 wm_612 (by decide +kernel) (yRm_le (by decide) (by decide))) rfl rfl (Nat.le_of_ble_eq_true rfl) dX12_net_1) (fun v1 u2 hk => ?_)
  clear hv
  have hv := hk
  clear hk
  refine y_if_eq (tgt := 16) E dX12_net_4 (by decide) (fun c3 => ?_) (fun c3 => ?_)
  · replace hv := ite_t hv c3
    refine y_bipush (v := (-2)) E dX12_net_16 (by decide) ?_
    exact y_iret E dX12_net_18 hv
  · replace hv := ite_f hv c3
    refine y_iload_n E dX12_net_7 2 rfl ?_
    refine y_iconst (v := 0) E dX12_net_8 (by decide) ?_
    refine y_iconst (v := 1) E dX12_net_9 (by decide) ?_
    refine y_calli E (y_runS E (rest := []) (kX12_in l w E.2.2.1 u2 a2 0 1 _ hv) (y_cwS 3 E.1.2.2.2.2 wm_477 wm_478 wm_479 wm_480 (by decide +kernel) (yRm_le (by decide) (by decide))) rfl rfl (Nat.le_of_ble_eq_true rfl) dX12_net_10) (fun v4 u5 hk => ?_)
    clear hv
    have hv := hk
    clear hk
    refine y_if_ne (tgt := 19) E dX12_net_13 (by decide) (fun c6 => ?_) (fun c6 => ?_)
    · replace hv := ite_f hv c6
      refine y_iconst (v := (-1)) E dX12_net_19 (by decide) ?_
      refine y_istore_n (lv' := [(3, .int (-1)), (0, .ref (w.1 0)), (1, .int a1), (2, .int a2)]) E dX12_net_20 (by decide) rfl ?_
      refine y_aload_n E dX12_net_21 1 rfl ?_
      refine y_iload_n E dX12_net_22 2 rfl ?_
      refine y_calli E (y_runV E (rest := []) (kX12_netted l w E.2.2.1 u5 a1 _ hv) (y_cwV 1 E.1.2.2.2.2 wm_630 wm_631 wm_632 wm_479 wm_633 (by decide +kernel) (yRm_le (by decide) (by decide))) (Nat.lt_of_lt_of_le (show 0 < 1 by decide) (by decide)) (mc_X12 (by decide) (by decide)) rfl rfl rfl (Nat.le_of_ble_eq_true rfl) dX12_net_23) (fun v7 u8 hk => ?_)
      clear hv
      have hv := hk
      clear hk
      refine y_istore (lv' := [(4, .int v7), (3, .int (-1)), (0, .ref (w.1 0)), (1, .int a1), (2, .int a2)]) E dX12_net_26 (by decide) rfl ?_
      refine y_iconst (v := 0) E dX12_net_28 (by decide) ?_
      refine y_istore (lv' := [(5, .int 0), (4, .int v7), (3, .int (-1)), (0, .ref (w.1 0)), (1, .int a1), (2, .int a2)]) E dX12_net_29 (by decide) rfl ?_
      refine y_lv (lv' := [(0, .ref (w.1 0)), (1, .int a1), (2, .int a2), (3, .int (-1)), (4, .int v7), (5, .int 0)]) [3, 4, 5, 2, 1, 0] rfl ?_
      obtain ⟨n0, hv⟩ := hv
      exact hL31 n0 u8 a1 a2 (-1) v7 0 hv
    · replace hv := ite_t hv c6
      refine y_bipush (v := (-2)) E dX12_net_16 (by decide) ?_
      exact y_iret E dX12_net_18 hv
theorem dX12_letsGo_0 : decode cX12_letsGo 0 = .ok (.iconst 0, 1) := by decide +kernel
theorem dX12_letsGo_1 : decode cX12_letsGo 1 = .ok (.istore_n 3, 1) := by decide +kernel
theorem dX12_letsGo_2 : decode cX12_letsGo 2 = .ok (.iload_n 3, 1) := by decide +kernel
theorem dX12_letsGo_3 : decode cX12_letsGo 3 = .ok (.iconst 5, 1) := by decide +kernel
theorem dX12_letsGo_4 : decode cX12_letsGo 4 = .ok (.if_icmp .ge 40, 3) := by decide +kernel
theorem dX12_letsGo_7 : decode cX12_letsGo 7 = .ok (.aload_n 0, 1) := by decide +kernel
theorem dX12_letsGo_8 : decode cX12_letsGo 8 = .ok (.aload_n 0, 1) := by decide +kernel
theorem dX12_letsGo_9 : decode cX12_letsGo 9 = .ok (.getfield 19, 3) := by decide +kernel
theorem dX12_letsGo_12 : decode cX12_letsGo 12 = .ok (.iload_n 1, 1) := by decide +kernel
theorem dX12_letsGo_13 : decode cX12_letsGo 13 = .ok (.iaload, 1) := by decide +kernel
theorem dX12_letsGo_14 : decode cX12_letsGo 14 = .ok (.putfield 181, 3) := by decide +kernel
theorem dX12_letsGo_17 : decode cX12_letsGo 17 = .ok (.aload_n 0, 1) := by decide +kernel
theorem dX12_letsGo_18 : decode cX12_letsGo 18 = .ok (.iload_n 3, 1) := by decide +kernel
theorem dX12_letsGo_19 : decode cX12_letsGo 19 = .ok (.putfield 184, 3) := by decide +kernel
theorem dX12_letsGo_22 : decode cX12_letsGo 22 = .ok (.aload_n 0, 1) := by decide +kernel
theorem dX12_letsGo_23 : decode cX12_letsGo 23 = .ok (.iload_n 1, 1) := by decide +kernel
theorem dX12_letsGo_24 : decode cX12_letsGo 24 = .ok (.iload_n 2, 1) := by decide +kernel
theorem dX12_letsGo_25 : decode cX12_letsGo 25 = .ok (.invokevirtual 203, 3) := by decide +kernel
theorem dX12_letsGo_28 : decode cX12_letsGo 28 = .ok (.aload_n 0, 1) := by decide +kernel
theorem dX12_letsGo_29 : decode cX12_letsGo 29 = .ok (.getfield 64, 3) := by decide +kernel
theorem dX12_letsGo_32 : decode cX12_letsGo 32 = .ok (.iload_n 3, 1) := by decide +kernel
theorem dX12_letsGo_33 : decode cX12_letsGo 33 = .ok (.aload_n 0, 1) := by decide +kernel
theorem dX12_letsGo_34 : decode cX12_letsGo 34 = .ok (.getfield 181, 3) := by decide +kernel
theorem dX12_letsGo_37 : decode cX12_letsGo 37 = .ok (.iastore, 1) := by decide +kernel
theorem dX12_letsGo_38 : decode cX12_letsGo 38 = .ok (.iinc 3 1, 3) := by decide +kernel
theorem dX12_letsGo_41 : decode cX12_letsGo 41 = .ok (.goto (-39), 3) := by decide +kernel
theorem dX12_letsGo_44 : decode cX12_letsGo 44 = .ok (.return_, 1) := by decide +kernel
set_option maxRecDepth 100000 in
set_option maxHeartbeats 4000000 in
theorem kX12_letsGo (l : Launch) (w : wT) (hw : yOk w 20) (σ : Hp) (a1 : Int32) (a2 : Int32) (K : Hp → Prop) (hv : VX12_letsGo K σ a1 a2) : yMet l w mcf 20 yX12_letsGo cX12_letsGo 4 none 6 [.ref (w.1 0), .int a1, .int a2] σ (yQv w mcf 20 K) := by
  unfold VX12_letsGo at hv
  refine y_start (lv0 := [(0, .ref (w.1 0)), (1, .int a1), (2, .int a2)]) (by decide +kernel) (own := RX12) rfl hw (Nat.le_of_ble_eq_true rfl) rfl (fun p e s m below meth c A E => ?_)
  have hL2 : ∀ (n2 : Nat) (σ : Hp) (l1 : Int32) (l2 : Int32) (l3 : Int32), VX12_letsGo_L2 K n2 σ l1 l2 l3 → YY p l e (yRm 6) s m [.ref (w.1 0), .int a1, .int a2].toArray below meth c w mcf 20 A (MQ below (yQv w mcf 20 K A) [.ref (w.1 0), .int a1, .int a2].toArray s 0 0 A) 4 σ 2 [(0, .ref (w.1 0)), (1, .int l1), (2, .int l2), (3, .int l3)] [] := by
    intro n2
    induction n2 with
    | zero => exact fun _ _ _ _ hv => (by unfold VX12_letsGo_L2 at hv; exact hv.elim)
    | succ n2 ih2 =>
      intro σ l1 l2 l3 hv
      unfold VX12_letsGo_L2 at hv
      refine y_iload_n E dX12_letsGo_2 3 rfl ?_
      refine y_iconst (v := 5) E dX12_letsGo_3 (by decide) ?_
      refine y_icmp_ge (tgt := 44) E dX12_letsGo_4 (by decide) (fun c1 => ?_) (fun c1 => ?_)
      · replace hv := ite_t hv c1
        exact y_vret E dX12_letsGo_44 hv
      · replace hv := ite_f hv c1
        refine y_aload_n E dX12_letsGo_7 0 rfl ?_
        refine y_aload_n E dX12_letsGo_8 0 rfl ?_
        refine gf_X12_5 E (by decide) (by decide) wm_490 dX12_letsGo_9 ?_
        refine y_iload_n E dX12_letsGo_12 1 rfl ?_
        obtain ⟨hi, hv⟩ := hv
        refine y_iald E (Nat.lt_of_lt_of_le (show 4 < 5 by decide) (by decide)) (mc_m_cellOf (by decide) (by decide)) hi dX12_letsGo_13 ?_
        refine pf_X12_32 E (by decide) (by decide) wm_581 dX12_letsGo_14 ?_
        refine y_nmH (fun u2 hu2 => ?_)
        replace hv := hv u2 hu2
        refine y_aload_n E dX12_letsGo_17 0 rfl ?_
        refine y_iload_n E dX12_letsGo_18 3 rfl ?_
        refine pf_X12_33 E (by decide) (by decide) wm_582 dX12_letsGo_19 ?_
        refine y_nmH (fun u3 hu3 => ?_)
        replace hv := hv u3 hu3
        refine y_aload_n E dX12_letsGo_22 0 rfl ?_
        refine y_iload_n E dX12_letsGo_23 1 rfl ?_
        refine y_iload_n E dX12_letsGo_24 2 rfl ?_
        refine y_callv E (y_runV E (rest := []) (kX12_goesBehind l w E.2.2.1 u3 l1 l2 _ hv) (y_cwV 2 E.1.2.2.2.2 wm_599 wm_600 wm_601 wm_479 wm_602 (by decide +kernel) (yRm_le (by decide) (by decide))) (Nat.lt_of_lt_of_le (show 0 < 1 by decide) (by decide)) (mc_X12 (by decide) (by decide)) rfl rfl rfl (Nat.le_of_ble_eq_true rfl) dX12_letsGo_25) (fun u5 hk => ?_)
        clear hv
        have hv := hk
        clear hk
        refine y_aload_n E dX12_letsGo_28 0 rfl ?_
        refine gf_X12_35 E (by decide) (by decide) wm_634 dX12_letsGo_29 ?_
        refine y_iload_n E dX12_letsGo_32 3 rfl ?_
        refine y_aload_n E dX12_letsGo_33 0 rfl ?_
        refine gf_X12_32 E (by decide) (by decide) wm_581 dX12_letsGo_34 ?_
        obtain ⟨hi, hv⟩ := hv
        refine y_iast E (Nat.lt_of_lt_of_le (show 19 < 20 by decide) (by decide)) (fun _ => mc_m_wentTo (by decide) (by decide)) hi dX12_letsGo_37 ?_
        refine y_nmH (fun u6 hu6 => ?_)
        replace hv := hv u6 hu6
        obtain ⟨x7, hx7⟩ : ∃ z : Int32, z = l3 + 1 := ⟨_, rfl⟩
        replace hv := hv x7 hx7
        refine y_iinc (v := x7) (lv' := [(3, .int x7), (0, .ref (w.1 0)), (1, .int l1), (2, .int l2)]) E dX12_letsGo_38 3 rfl (by rw [hx7]; rfl) (by decide) rfl ?_
        refine y_goto (tgt := 2) E dX12_letsGo_41 (by decide) ?_
        refine y_lv (lv' := [(0, .ref (w.1 0)), (1, .int l1), (2, .int l2), (3, .int x7)]) [1, 2, 3, 0] rfl ?_
        exact ih2 u6 l1 l2 x7 hv
  refine y_iconst (v := 0) E dX12_letsGo_0 (by decide) ?_
  refine y_istore_n (lv' := [(3, .int 0), (0, .ref (w.1 0)), (1, .int a1), (2, .int a2)]) E dX12_letsGo_1 (by decide) rfl ?_
  refine y_lv (lv' := [(0, .ref (w.1 0)), (1, .int a1), (2, .int a2), (3, .int 0)]) [1, 2, 3, 0] rfl ?_
  obtain ⟨n0, hv⟩ := hv
  exact hL2 n0 σ a1 a2 0 hv
theorem dX12_byHowMany_0 : decode cX12_byHowMany 0 = .ok (.iconst 0, 1) := by decide +kernel
theorem dX12_byHowMany_1 : decode cX12_byHowMany 1 = .ok (.istore_n 2, 1) := by decide +kernel
theorem dX12_byHowMany_2 : decode cX12_byHowMany 2 = .ok (.iconst 0, 1) := by decide +kernel
theorem dX12_byHowMany_3 : decode cX12_byHowMany 3 = .ok (.istore_n 3, 1) := by decide +kernel
theorem dX12_byHowMany_4 : decode cX12_byHowMany 4 = .ok (.iload_n 3, 1) := by decide +kernel
theorem dX12_byHowMany_5 : decode cX12_byHowMany 5 = .ok (.iconst 5, 1) := by decide +kernel
theorem dX12_byHowMany_6 : decode cX12_byHowMany 6 = .ok (.if_icmp .ge 27, 3) := by decide +kernel
theorem dX12_byHowMany_9 : decode cX12_byHowMany 9 = .ok (.iload_n 2, 1) := by decide +kernel
theorem dX12_byHowMany_10 : decode cX12_byHowMany 10 = .ok (.aload_n 0, 1) := by decide +kernel
theorem dX12_byHowMany_11 : decode cX12_byHowMany 11 = .ok (.getfield 64, 3) := by decide +kernel
theorem dX12_byHowMany_14 : decode cX12_byHowMany 14 = .ok (.iload_n 3, 1) := by decide +kernel
theorem dX12_byHowMany_15 : decode cX12_byHowMany 15 = .ok (.iaload, 1) := by decide +kernel
theorem dX12_byHowMany_16 : decode cX12_byHowMany 16 = .ok (.iload_n 1, 1) := by decide +kernel
theorem dX12_byHowMany_17 : decode cX12_byHowMany 17 = .ok (.if_icmp .ne 7, 3) := by decide +kernel
theorem dX12_byHowMany_20 : decode cX12_byHowMany 20 = .ok (.iconst 1, 1) := by decide +kernel
theorem dX12_byHowMany_21 : decode cX12_byHowMany 21 = .ok (.goto 4, 3) := by decide +kernel
theorem dX12_byHowMany_24 : decode cX12_byHowMany 24 = .ok (.iconst 0, 1) := by decide +kernel
theorem dX12_byHowMany_25 : decode cX12_byHowMany 25 = .ok (.iadd, 1) := by decide +kernel
theorem dX12_byHowMany_26 : decode cX12_byHowMany 26 = .ok (.istore_n 2, 1) := by decide +kernel
theorem dX12_byHowMany_27 : decode cX12_byHowMany 27 = .ok (.iinc 3 1, 3) := by decide +kernel
theorem dX12_byHowMany_30 : decode cX12_byHowMany 30 = .ok (.goto (-26), 3) := by decide +kernel
theorem dX12_byHowMany_33 : decode cX12_byHowMany 33 = .ok (.iload_n 2, 1) := by decide +kernel
theorem dX12_byHowMany_34 : decode cX12_byHowMany 34 = .ok (.ireturn, 1) := by decide +kernel
set_option maxRecDepth 100000 in
set_option maxHeartbeats 4000000 in
theorem kX12_byHowMany (l : Launch) (w : wT) (hw : yOk w 20) (σ : Hp) (a1 : Int32) (K : Int32 → Hp → Prop) (hv : VX12_byHowMany K σ a1) : yMet l w mcf 20 yX12_byHowMany cX12_byHowMany 4 (some .int) 1 [.ref (w.1 0), .int a1] σ (yQi w mcf 20 K) := by
  unfold VX12_byHowMany at hv
  refine y_start (lv0 := [(0, .ref (w.1 0)), (1, .int a1)]) (by decide +kernel) (own := RX12) rfl hw (Nat.le_of_ble_eq_true rfl) rfl (fun p e s m below meth c A E => ?_)
  have hL4 : ∀ (n4 : Nat) (σ : Hp) (l1 : Int32) (l2 : Int32) (l3 : Int32), VX12_byHowMany_L4 K n4 σ l1 l2 l3 → YY p l e (yRm 1) s m [.ref (w.1 0), .int a1].toArray below meth c w mcf 20 A (MQ below (yQi w mcf 20 K A) [.ref (w.1 0), .int a1].toArray s 0 0 A) 4 σ 4 [(0, .ref (w.1 0)), (1, .int l1), (2, .int l2), (3, .int l3)] [] := by
    intro n4
    induction n4 with
    | zero => exact fun _ _ _ _ hv => (by unfold VX12_byHowMany_L4 at hv; exact hv.elim)
    | succ n4 ih4 =>
      intro σ l1 l2 l3 hv
      unfold VX12_byHowMany_L4 at hv
      refine y_iload_n E dX12_byHowMany_4 3 rfl ?_
      refine y_iconst (v := 5) E dX12_byHowMany_5 (by decide) ?_
      refine y_icmp_ge (tgt := 33) E dX12_byHowMany_6 (by decide) (fun c1 => ?_) (fun c1 => ?_)
      · replace hv := ite_t hv c1
        refine y_iload_n E dX12_byHowMany_33 2 rfl ?_
        exact y_iret E dX12_byHowMany_34 hv
      · replace hv := ite_f hv c1
        refine y_iload_n E dX12_byHowMany_9 2 rfl ?_
        refine y_aload_n E dX12_byHowMany_10 0 rfl ?_
        refine gf_X12_35 E (by decide) (by decide) wm_634 dX12_byHowMany_11 ?_
        refine y_iload_n E dX12_byHowMany_14 3 rfl ?_
        obtain ⟨hi, hv⟩ := hv
        refine y_iald E (Nat.lt_of_lt_of_le (show 19 < 20 by decide) (by decide)) (mc_m_wentTo (by decide) (by decide)) hi dX12_byHowMany_15 ?_
        refine y_iload_n E dX12_byHowMany_16 1 rfl ?_
        refine y_icmp_ne (tgt := 24) E dX12_byHowMany_17 (by decide) (fun c2 => ?_) (fun c2 => ?_)
        · replace hv := ite_f hv c2
          refine y_iconst (v := 0) E dX12_byHowMany_24 (by decide) ?_
          refine y_iadd E dX12_byHowMany_25 ?_
          refine y_nmi (fun x3 hx3 => ?_)
          replace hv := hv x3 hx3
          refine y_istore_n (lv' := [(2, .int x3), (0, .ref (w.1 0)), (1, .int l1), (3, .int l3)]) E dX12_byHowMany_26 (by decide) rfl ?_
          obtain ⟨x4, hx4⟩ : ∃ z : Int32, z = l3 + 1 := ⟨_, rfl⟩
          replace hv := hv x4 hx4
          refine y_iinc (v := x4) (lv' := [(3, .int x4), (2, .int x3), (0, .ref (w.1 0)), (1, .int l1)]) E dX12_byHowMany_27 3 rfl (by rw [hx4]; rfl) (by decide) rfl ?_
          refine y_goto (tgt := 4) E dX12_byHowMany_30 (by decide) ?_
          refine y_lv (lv' := [(0, .ref (w.1 0)), (1, .int l1), (2, .int x3), (3, .int x4)]) [2, 3, 1, 0] rfl ?_
          exact ih4 σ l1 x3 x4 hv
        · replace hv := ite_t hv c2
          refine y_iconst (v := 1) E dX12_byHowMany_20 (by decide) ?_
          refine y_goto (tgt := 25) E dX12_byHowMany_21 (by decide) ?_
          refine y_iadd E dX12_byHowMany_25 ?_
          refine y_nmi (fun x5 hx5 => ?_)
          replace hv := hv x5 hx5
          refine y_istore_n (lv' := [(2, .int x5), (0, .ref (w.1 0)), (1, .int l1), (3, .int l3)]) E dX12_byHowMany_26 (by decide) rfl ?_
          obtain ⟨x6, hx6⟩ : ∃ z : Int32, z = l3 + 1 := ⟨_, rfl⟩
          replace hv := hv x6 hx6
          refine y_iinc (v := x6) (lv' := [(3, .int x6), (2, .int x5), (0, .ref (w.1 0)), (1, .int l1)]) E dX12_byHowMany_27 3 rfl (by rw [hx6]; rfl) (by decide) rfl ?_
          refine y_goto (tgt := 4) E dX12_byHowMany_30 (by decide) ?_
          refine y_lv (lv' := [(0, .ref (w.1 0)), (1, .int l1), (2, .int x5), (3, .int x6)]) [2, 3, 1, 0] rfl ?_
          exact ih4 σ l1 x5 x6 hv
  refine y_iconst (v := 0) E dX12_byHowMany_0 (by decide) ?_
  refine y_istore_n (lv' := [(2, .int 0), (0, .ref (w.1 0)), (1, .int a1)]) E dX12_byHowMany_1 (by decide) rfl ?_
  refine y_iconst (v := 0) E dX12_byHowMany_2 (by decide) ?_
  refine y_istore_n (lv' := [(3, .int 0), (2, .int 0), (0, .ref (w.1 0)), (1, .int a1)]) E dX12_byHowMany_3 (by decide) rfl ?_
  refine y_lv (lv' := [(0, .ref (w.1 0)), (1, .int a1), (2, .int 0), (3, .int 0)]) [2, 3, 1, 0] rfl ?_
  obtain ⟨n0, hv⟩ := hv
  exact hL4 n0 σ a1 0 0 hv
theorem dX12_can_0 : decode cX12_can 0 = .ok (.aload_n 0, 1) := by decide +kernel
theorem dX12_can_1 : decode cX12_can 1 = .ok (.iload_n 1, 1) := by decide +kernel
theorem dX12_can_2 : decode cX12_can 2 = .ok (.invokevirtual 178, 3) := by decide +kernel
theorem dX12_can_5 : decode cX12_can 5 = .ok (.ifCond .ne 6, 3) := by decide +kernel
theorem dX12_can_8 : decode cX12_can 8 = .ok (.bipush (-5), 2) := by decide +kernel
theorem dX12_can_10 : decode cX12_can 10 = .ok (.ireturn, 1) := by decide +kernel
theorem dX12_can_11 : decode cX12_can 11 = .ok (.iload_n 2, 1) := by decide +kernel
theorem dX12_can_12 : decode cX12_can 12 = .ok (.invokestatic 206, 3) := by decide +kernel
theorem dX12_can_15 : decode cX12_can 15 = .ok (.ifCond .ne 6, 3) := by decide +kernel
theorem dX12_can_18 : decode cX12_can 18 = .ok (.bipush (-7), 2) := by decide +kernel
theorem dX12_can_20 : decode cX12_can 20 = .ok (.ireturn, 1) := by decide +kernel
theorem dX12_can_21 : decode cX12_can 21 = .ok (.aload_n 0, 1) := by decide +kernel
theorem dX12_can_22 : decode cX12_can 22 = .ok (.iload_n 1, 1) := by decide +kernel
theorem dX12_can_23 : decode cX12_can 23 = .ok (.iload_n 2, 1) := by decide +kernel
theorem dX12_can_24 : decode cX12_can 24 = .ok (.invokevirtual 227, 3) := by decide +kernel
theorem dX12_can_27 : decode cX12_can 27 = .ok (.iconst 0, 1) := by decide +kernel
theorem dX12_can_28 : decode cX12_can 28 = .ok (.istore_n 3, 1) := by decide +kernel
theorem dX12_can_29 : decode cX12_can 29 = .ok (.iconst 0, 1) := by decide +kernel
theorem dX12_can_30 : decode cX12_can 30 = .ok (.istore 4, 2) := by decide +kernel
theorem dX12_can_32 : decode cX12_can 32 = .ok (.iload 4, 2) := by decide +kernel
theorem dX12_can_34 : decode cX12_can 34 = .ok (.iconst 5, 1) := by decide +kernel
theorem dX12_can_35 : decode cX12_can 35 = .ok (.if_icmp .ge 21, 3) := by decide +kernel
theorem dX12_can_38 : decode cX12_can 38 = .ok (.iload_n 3, 1) := by decide +kernel
theorem dX12_can_39 : decode cX12_can 39 = .ok (.iconst 1, 1) := by decide +kernel
theorem dX12_can_40 : decode cX12_can 40 = .ok (.aload_n 0, 1) := by decide +kernel
theorem dX12_can_41 : decode cX12_can 41 = .ok (.getfield 64, 3) := by decide +kernel
theorem dX12_can_44 : decode cX12_can 44 = .ok (.iload 4, 2) := by decide +kernel
theorem dX12_can_46 : decode cX12_can 46 = .ok (.iaload, 1) := by decide +kernel
theorem dX12_can_47 : decode cX12_can 47 = .ok (.ishl, 1) := by decide +kernel
theorem dX12_can_48 : decode cX12_can 48 = .ok (.ior, 1) := by decide +kernel
theorem dX12_can_49 : decode cX12_can 49 = .ok (.istore_n 3, 1) := by decide +kernel
theorem dX12_can_50 : decode cX12_can 50 = .ok (.iinc 4 1, 3) := by decide +kernel
theorem dX12_can_53 : decode cX12_can 53 = .ok (.goto (-21), 3) := by decide +kernel
theorem dX12_can_56 : decode cX12_can 56 = .ok (.iload_n 3, 1) := by decide +kernel
theorem dX12_can_57 : decode cX12_can 57 = .ok (.ireturn, 1) := by decide +kernel
set_option maxRecDepth 100000 in
set_option maxHeartbeats 4000000 in
theorem kX12_can (l : Launch) (w : wT) (hw : yOk w 20) (σ : Hp) (a1 : Int32) (a2 : Int32) (K : Int32 → Hp → Prop) (hv : VX12_can K σ a1 a2) : yMet l w mcf 20 yX12_can cX12_can 5 (some .int) 7 [.ref (w.1 0), .int a1, .int a2] σ (yQi w mcf 20 K) := by
  unfold VX12_can at hv
  refine y_start (lv0 := [(0, .ref (w.1 0)), (1, .int a1), (2, .int a2)]) (by decide +kernel) (own := RX12) rfl hw (Nat.le_of_ble_eq_true rfl) rfl (fun p e s m below meth c A E => ?_)
  have hL32 : ∀ (n32 : Nat) (σ : Hp) (l3 : Int32) (l4 : Int32), VX12_can_L32 K n32 σ l3 l4 → YY p l e (yRm 7) s m [.ref (w.1 0), .int a1, .int a2].toArray below meth c w mcf 20 A (MQ below (yQi w mcf 20 K A) [.ref (w.1 0), .int a1, .int a2].toArray s 0 0 A) 5 σ 32 [(0, .ref (w.1 0)), (3, .int l3), (4, .int l4)] [] := by
    intro n32
    induction n32 with
    | zero => exact fun _ _ _ hv => (by unfold VX12_can_L32 at hv; exact hv.elim)
    | succ n32 ih32 =>
      intro σ l3 l4 hv
      unfold VX12_can_L32 at hv
      refine y_iload E dX12_can_32 2 rfl ?_
      refine y_iconst (v := 5) E dX12_can_34 (by decide) ?_
      refine y_icmp_ge (tgt := 56) E dX12_can_35 (by decide) (fun c9 => ?_) (fun c9 => ?_)
      · replace hv := ite_t hv c9
        refine y_iload_n E dX12_can_56 1 rfl ?_
        exact y_iret E dX12_can_57 hv
      · replace hv := ite_f hv c9
        refine y_iload_n E dX12_can_38 1 rfl ?_
        refine y_iconst (v := 1) E dX12_can_39 (by decide) ?_
        refine y_aload_n E dX12_can_40 0 rfl ?_
        refine gf_X12_35 E (by decide) (by decide) wm_634 dX12_can_41 ?_
        refine y_iload E dX12_can_44 2 rfl ?_
        obtain ⟨hi, hv⟩ := hv
        refine y_iald E (Nat.lt_of_lt_of_le (show 19 < 20 by decide) (by decide)) (mc_m_wentTo (by decide) (by decide)) hi dX12_can_46 ?_
        refine y_ishl E dX12_can_47 ?_
        refine y_ior E dX12_can_48 ?_
        refine y_nmi (fun x10 hx10 => ?_)
        replace hv := hv x10 hx10
        refine y_istore_n (lv' := [(3, .int x10), (0, .ref (w.1 0)), (4, .int l4)]) E dX12_can_49 (by decide) rfl ?_
        obtain ⟨x11, hx11⟩ : ∃ z : Int32, z = l4 + 1 := ⟨_, rfl⟩
        replace hv := hv x11 hx11
        refine y_iinc (v := x11) (lv' := [(4, .int x11), (3, .int x10), (0, .ref (w.1 0))]) E dX12_can_50 2 rfl (by rw [hx11]; rfl) (by decide) rfl ?_
        refine y_goto (tgt := 32) E dX12_can_53 (by decide) ?_
        refine y_lv (lv' := [(0, .ref (w.1 0)), (3, .int x10), (4, .int x11)]) [2, 1, 0] rfl ?_
        exact ih32 σ x10 x11 hv
  refine y_aload_n E dX12_can_0 0 rfl ?_
  refine y_iload_n E dX12_can_1 1 rfl ?_
  refine y_calli E (y_runV E (rest := []) (kX12_isThing l w E.2.2.1 σ a1 _ hv) (y_cwV 1 E.1.2.2.2.2 wm_577 wm_578 wm_579 wm_479 wm_580 (by decide +kernel) (yRm_le (by decide) (by decide))) (Nat.lt_of_lt_of_le (show 0 < 1 by decide) (by decide)) (mc_X12 (by decide) (by decide)) rfl rfl rfl (Nat.le_of_ble_eq_true rfl) dX12_can_2) (fun v1 u2 hk => ?_)
  clear hv
  have hv := hk
  clear hk
  refine y_if_ne (tgt := 11) E dX12_can_5 (by decide) (fun c3 => ?_) (fun c3 => ?_)
  · replace hv := ite_f hv c3
    refine y_iload_n E dX12_can_11 2 rfl ?_
    refine y_calli E (y_runS E (rest := []) (kX12_areSteps l w E.2.2.1 u2 a2 _ hv) (y_cwS 1 E.1.2.2.2.2 wm_606 wm_611 wm_479 wm_612 (by decide +kernel) (yRm_le (by decide) (by decide))) rfl rfl (Nat.le_of_ble_eq_true rfl) dX12_can_12) (fun v4 u5 hk => ?_)
    clear hv
    have hv := hk
    clear hk
    refine y_if_ne (tgt := 21) E dX12_can_15 (by decide) (fun c6 => ?_) (fun c6 => ?_)
    · replace hv := ite_f hv c6
      refine y_aload_n E dX12_can_21 0 rfl ?_
      refine y_iload_n E dX12_can_22 1 rfl ?_
      refine y_iload_n E dX12_can_23 2 rfl ?_
      refine y_callv E (y_runV E (rest := []) (kX12_letsGo l w E.2.2.1 u5 a1 a2 _ hv) (y_cwV 2 E.1.2.2.2.2 wm_635 wm_636 wm_637 wm_479 wm_638 (by decide +kernel) (yRm_le (by decide) (by decide))) (Nat.lt_of_lt_of_le (show 0 < 1 by decide) (by decide)) (mc_X12 (by decide) (by decide)) rfl rfl rfl (Nat.le_of_ble_eq_true rfl) dX12_can_24) (fun u8 hk => ?_)
      clear hv
      have hv := hk
      clear hk
      refine y_iconst (v := 0) E dX12_can_27 (by decide) ?_
      refine y_istore_n (lv' := [(3, .int 0), (0, .ref (w.1 0)), (1, .int a1), (2, .int a2)]) E dX12_can_28 (by decide) rfl ?_
      refine y_iconst (v := 0) E dX12_can_29 (by decide) ?_
      refine y_istore (lv' := [(4, .int 0), (3, .int 0), (0, .ref (w.1 0)), (1, .int a1), (2, .int a2)]) E dX12_can_30 (by decide) rfl ?_
      refine y_lv (lv' := [(0, .ref (w.1 0)), (3, .int 0), (4, .int 0)]) [2, 1, 0] rfl ?_
      obtain ⟨n0, hv⟩ := hv
      exact hL32 n0 u8 0 0 hv
    · replace hv := ite_t hv c6
      refine y_bipush (v := (-7)) E dX12_can_18 (by decide) ?_
      exact y_iret E dX12_can_20 hv
  · replace hv := ite_t hv c3
    refine y_bipush (v := (-5)) E dX12_can_8 (by decide) ?_
    exact y_iret E dX12_can_10 hv
theorem dX12_look_0 : decode cX12_look 0 = .ok (.aload_n 0, 1) := by decide +kernel
theorem dX12_look_1 : decode cX12_look 1 = .ok (.iload_n 1, 1) := by decide +kernel
theorem dX12_look_2 : decode cX12_look 2 = .ok (.invokevirtual 178, 3) := by decide +kernel
theorem dX12_look_5 : decode cX12_look 5 = .ok (.ifCond .ne 6, 3) := by decide +kernel
theorem dX12_look_8 : decode cX12_look 8 = .ok (.bipush (-5), 2) := by decide +kernel
theorem dX12_look_10 : decode cX12_look 10 = .ok (.ireturn, 1) := by decide +kernel
theorem dX12_look_11 : decode cX12_look 11 = .ok (.iload_n 2, 1) := by decide +kernel
theorem dX12_look_12 : decode cX12_look 12 = .ok (.invokestatic 206, 3) := by decide +kernel
theorem dX12_look_15 : decode cX12_look 15 = .ok (.ifCond .eq 12, 3) := by decide +kernel
theorem dX12_look_18 : decode cX12_look 18 = .ok (.iload_n 3, 1) := by decide +kernel
theorem dX12_look_19 : decode cX12_look 19 = .ok (.iconst 0, 1) := by decide +kernel
theorem dX12_look_20 : decode cX12_look 20 = .ok (.iconst 1, 1) := by decide +kernel
theorem dX12_look_21 : decode cX12_look 21 = .ok (.invokestatic 75, 3) := by decide +kernel
theorem dX12_look_24 : decode cX12_look 24 = .ok (.ifCond .ne 6, 3) := by decide +kernel
theorem dX12_look_27 : decode cX12_look 27 = .ok (.bipush (-7), 2) := by decide +kernel
theorem dX12_look_29 : decode cX12_look 29 = .ok (.ireturn, 1) := by decide +kernel
theorem dX12_look_30 : decode cX12_look 30 = .ok (.aload_n 0, 1) := by decide +kernel
theorem dX12_look_31 : decode cX12_look 31 = .ok (.iload_n 1, 1) := by decide +kernel
theorem dX12_look_32 : decode cX12_look 32 = .ok (.iload_n 2, 1) := by decide +kernel
theorem dX12_look_33 : decode cX12_look 33 = .ok (.invokevirtual 227, 3) := by decide +kernel
theorem dX12_look_36 : decode cX12_look 36 = .ok (.iconst 0, 1) := by decide +kernel
theorem dX12_look_37 : decode cX12_look 37 = .ok (.istore 4, 2) := by decide +kernel
theorem dX12_look_39 : decode cX12_look 39 = .ok (.iconst 1, 1) := by decide +kernel
theorem dX12_look_40 : decode cX12_look 40 = .ok (.istore 5, 2) := by decide +kernel
theorem dX12_look_42 : decode cX12_look 42 = .ok (.iload 5, 2) := by decide +kernel
theorem dX12_look_44 : decode cX12_look 44 = .ok (.bipush 30, 2) := by decide +kernel
theorem dX12_look_46 : decode cX12_look 46 = .ok (.if_icmp .ge 33, 3) := by decide +kernel
theorem dX12_look_49 : decode cX12_look 49 = .ok (.aload_n 0, 1) := by decide +kernel
theorem dX12_look_50 : decode cX12_look 50 = .ok (.iload 5, 2) := by decide +kernel
theorem dX12_look_52 : decode cX12_look 52 = .ok (.invokevirtual 230, 3) := by decide +kernel
theorem dX12_look_55 : decode cX12_look 55 = .ok (.aload_n 0, 1) := by decide +kernel
theorem dX12_look_56 : decode cX12_look 56 = .ok (.iload 4, 2) := by decide +kernel
theorem dX12_look_58 : decode cX12_look 58 = .ok (.invokevirtual 230, 3) := by decide +kernel
theorem dX12_look_61 : decode cX12_look 61 = .ok (.if_icmp .le 8, 3) := by decide +kernel
theorem dX12_look_64 : decode cX12_look 64 = .ok (.iload 5, 2) := by decide +kernel
theorem dX12_look_66 : decode cX12_look 66 = .ok (.goto 5, 3) := by decide +kernel
theorem dX12_look_69 : decode cX12_look 69 = .ok (.iload 4, 2) := by decide +kernel
theorem dX12_look_71 : decode cX12_look 71 = .ok (.istore 4, 2) := by decide +kernel
theorem dX12_look_73 : decode cX12_look 73 = .ok (.iinc 5 1, 3) := by decide +kernel
theorem dX12_look_76 : decode cX12_look 76 = .ok (.goto (-34), 3) := by decide +kernel
theorem dX12_look_79 : decode cX12_look 79 = .ok (.iload_n 3, 1) := by decide +kernel
theorem dX12_look_80 : decode cX12_look 80 = .ok (.ifCond .ne 8, 3) := by decide +kernel
theorem dX12_look_83 : decode cX12_look 83 = .ok (.iload 4, 2) := by decide +kernel
theorem dX12_look_85 : decode cX12_look 85 = .ok (.goto 9, 3) := by decide +kernel
theorem dX12_look_88 : decode cX12_look 88 = .ok (.aload_n 0, 1) := by decide +kernel
theorem dX12_look_89 : decode cX12_look 89 = .ok (.iload 4, 2) := by decide +kernel
theorem dX12_look_91 : decode cX12_look 91 = .ok (.invokevirtual 230, 3) := by decide +kernel
theorem dX12_look_94 : decode cX12_look 94 = .ok (.ireturn, 1) := by decide +kernel
set_option maxRecDepth 100000 in
set_option maxHeartbeats 4000000 in
theorem kX12_look (l : Launch) (w : wT) (hw : yOk w 20) (σ : Hp) (a1 : Int32) (a2 : Int32) (a3 : Int32) (K : Int32 → Hp → Prop) (hv : VX12_look K σ a1 a2 a3) : yMet l w mcf 20 yX12_look cX12_look 6 (some .int) 7 [.ref (w.1 0), .int a1, .int a2, .int a3] σ (yQi w mcf 20 K) := by
  unfold VX12_look at hv
  refine y_start (lv0 := [(0, .ref (w.1 0)), (1, .int a1), (2, .int a2), (3, .int a3)]) (by decide +kernel) (own := RX12) rfl hw (Nat.le_of_ble_eq_true rfl) rfl (fun p e s m below meth c A E => ?_)
  have hL42 : ∀ (n42 : Nat) (σ : Hp) (l3 : Int32) (l4 : Int32) (l5 : Int32), VX12_look_L42 K n42 σ l3 l4 l5 → YY p l e (yRm 7) s m [.ref (w.1 0), .int a1, .int a2, .int a3].toArray below meth c w mcf 20 A (MQ below (yQi w mcf 20 K A) [.ref (w.1 0), .int a1, .int a2, .int a3].toArray s 0 0 A) 6 σ 42 [(0, .ref (w.1 0)), (3, .int l3), (4, .int l4), (5, .int l5)] [] := by
    intro n42
    induction n42 with
    | zero => exact fun _ _ _ _ hv => (by unfold VX12_look_L42 at hv; exact hv.elim)
    | succ n42 ih42 =>
      intro σ l3 l4 l5 hv
      unfold VX12_look_L42 at hv
      refine y_iload E dX12_look_42 3 rfl ?_
      refine y_bipush (v := 30) E dX12_look_44 (by decide) ?_
      refine y_icmp_ge (tgt := 79) E dX12_look_46 (by decide) (fun c12 => ?_) (fun c12 => ?_)
      · replace hv := ite_t hv c12
        refine y_iload_n E dX12_look_79 1 rfl ?_
        refine y_if_ne (tgt := 88) E dX12_look_80 (by decide) (fun c13 => ?_) (fun c13 => ?_)
        · replace hv := ite_f hv c13
          refine y_aload_n E dX12_look_88 0 rfl ?_
          refine y_iload E dX12_look_89 2 rfl ?_
          refine y_calli E (y_runV E (rest := []) (kX12_byHowMany l w E.2.2.1 σ l4 _ hv) (y_cwV 1 E.1.2.2.2.2 wm_639 wm_640 wm_641 wm_479 wm_642 (by decide +kernel) (yRm_le (by decide) (by decide))) (Nat.lt_of_lt_of_le (show 0 < 1 by decide) (by decide)) (mc_X12 (by decide) (by decide)) rfl rfl rfl (Nat.le_of_ble_eq_true rfl) dX12_look_91) (fun v14 u15 hk => ?_)
          clear hv
          have hv := hk
          clear hk
          exact y_iret E dX12_look_94 hv
        · replace hv := ite_t hv c13
          refine y_iload E dX12_look_83 2 rfl ?_
          refine y_goto (tgt := 94) E dX12_look_85 (by decide) ?_
          exact y_iret E dX12_look_94 hv
      · replace hv := ite_f hv c12
        refine y_aload_n E dX12_look_49 0 rfl ?_
        refine y_iload E dX12_look_50 3 rfl ?_
        refine y_calli E (y_runV E (rest := []) (kX12_byHowMany l w E.2.2.1 σ l5 _ hv) (y_cwV 1 E.1.2.2.2.2 wm_639 wm_640 wm_641 wm_479 wm_642 (by decide +kernel) (yRm_le (by decide) (by decide))) (Nat.lt_of_lt_of_le (show 0 < 1 by decide) (by decide)) (mc_X12 (by decide) (by decide)) rfl rfl rfl (Nat.le_of_ble_eq_true rfl) dX12_look_52) (fun v16 u17 hk => ?_)
        clear hv
        have hv := hk
        clear hk
        refine y_aload_n E dX12_look_55 0 rfl ?_
        refine y_iload E dX12_look_56 2 rfl ?_
        refine y_calli E (y_runV E (rest := [.int v16]) (kX12_byHowMany l w E.2.2.1 u17 l4 _ hv) (y_cwV 1 E.1.2.2.2.2 wm_639 wm_640 wm_641 wm_479 wm_642 (by decide +kernel) (yRm_le (by decide) (by decide))) (Nat.lt_of_lt_of_le (show 0 < 1 by decide) (by decide)) (mc_X12 (by decide) (by decide)) rfl rfl rfl (Nat.le_of_ble_eq_true rfl) dX12_look_58) (fun v18 u19 hk => ?_)
        clear hv
        have hv := hk
        clear hk
        refine y_icmp_le (tgt := 69) E dX12_look_61 (by decide) (fun c20 => ?_) (fun c20 => ?_)
        · replace hv := ite_t hv c20
          refine y_iload E dX12_look_69 2 rfl ?_
          refine y_istore (lv' := [(4, .int l4), (0, .ref (w.1 0)), (3, .int l3), (5, .int l5)]) E dX12_look_71 (by decide) rfl ?_
          obtain ⟨x21, hx21⟩ : ∃ z : Int32, z = l5 + 1 := ⟨_, rfl⟩
          replace hv := hv x21 hx21
          refine y_iinc (v := x21) (lv' := [(5, .int x21), (4, .int l4), (0, .ref (w.1 0)), (3, .int l3)]) E dX12_look_73 3 rfl (by rw [hx21]; rfl) (by decide) rfl ?_
          refine y_goto (tgt := 42) E dX12_look_76 (by decide) ?_
          refine y_lv (lv' := [(0, .ref (w.1 0)), (3, .int l3), (4, .int l4), (5, .int x21)]) [2, 3, 1, 0] rfl ?_
          exact ih42 u19 l3 l4 x21 hv
        · replace hv := ite_f hv c20
          refine y_iload E dX12_look_64 3 rfl ?_
          refine y_goto (tgt := 71) E dX12_look_66 (by decide) ?_
          refine y_istore (lv' := [(4, .int l5), (0, .ref (w.1 0)), (3, .int l3), (5, .int l5)]) E dX12_look_71 (by decide) rfl ?_
          obtain ⟨x22, hx22⟩ : ∃ z : Int32, z = l5 + 1 := ⟨_, rfl⟩
          replace hv := hv x22 hx22
          refine y_iinc (v := x22) (lv' := [(5, .int x22), (4, .int l5), (0, .ref (w.1 0)), (3, .int l3)]) E dX12_look_73 3 rfl (by rw [hx22]; rfl) (by decide) rfl ?_
          refine y_goto (tgt := 42) E dX12_look_76 (by decide) ?_
          refine y_lv (lv' := [(0, .ref (w.1 0)), (3, .int l3), (4, .int l5), (5, .int x22)]) [2, 3, 1, 0] rfl ?_
          exact ih42 u19 l3 l5 x22 hv
  refine y_aload_n E dX12_look_0 0 rfl ?_
  refine y_iload_n E dX12_look_1 1 rfl ?_
  refine y_calli E (y_runV E (rest := []) (kX12_isThing l w E.2.2.1 σ a1 _ hv) (y_cwV 1 E.1.2.2.2.2 wm_577 wm_578 wm_579 wm_479 wm_580 (by decide +kernel) (yRm_le (by decide) (by decide))) (Nat.lt_of_lt_of_le (show 0 < 1 by decide) (by decide)) (mc_X12 (by decide) (by decide)) rfl rfl rfl (Nat.le_of_ble_eq_true rfl) dX12_look_2) (fun v1 u2 hk => ?_)
  clear hv
  have hv := hk
  clear hk
  refine y_if_ne (tgt := 11) E dX12_look_5 (by decide) (fun c3 => ?_) (fun c3 => ?_)
  · replace hv := ite_f hv c3
    refine y_iload_n E dX12_look_11 2 rfl ?_
    refine y_calli E (y_runS E (rest := []) (kX12_areSteps l w E.2.2.1 u2 a2 _ hv) (y_cwS 1 E.1.2.2.2.2 wm_606 wm_611 wm_479 wm_612 (by decide +kernel) (yRm_le (by decide) (by decide))) rfl rfl (Nat.le_of_ble_eq_true rfl) dX12_look_12) (fun v4 u5 hk => ?_)
    clear hv
    have hv := hk
    clear hk
    refine y_if_eq (tgt := 27) E dX12_look_15 (by decide) (fun c6 => ?_) (fun c6 => ?_)
    · replace hv := ite_t hv c6
      refine y_bipush (v := (-7)) E dX12_look_27 (by decide) ?_
      exact y_iret E dX12_look_29 hv
    · replace hv := ite_f hv c6
      refine y_iload_n E dX12_look_18 3 rfl ?_
      refine y_iconst (v := 0) E dX12_look_19 (by decide) ?_
      refine y_iconst (v := 1) E dX12_look_20 (by decide) ?_
      refine y_calli E (y_runS E (rest := []) (kX12_in l w E.2.2.1 u5 a3 0 1 _ hv) (y_cwS 3 E.1.2.2.2.2 wm_477 wm_478 wm_479 wm_480 (by decide +kernel) (yRm_le (by decide) (by decide))) rfl rfl (Nat.le_of_ble_eq_true rfl) dX12_look_21) (fun v7 u8 hk => ?_)
      clear hv
      have hv := hk
      clear hk
      refine y_if_ne (tgt := 30) E dX12_look_24 (by decide) (fun c9 => ?_) (fun c9 => ?_)
      · replace hv := ite_f hv c9
        refine y_aload_n E dX12_look_30 0 rfl ?_
        refine y_iload_n E dX12_look_31 1 rfl ?_
        refine y_iload_n E dX12_look_32 2 rfl ?_
        refine y_callv E (y_runV E (rest := []) (kX12_letsGo l w E.2.2.1 u8 a1 a2 _ hv) (y_cwV 2 E.1.2.2.2.2 wm_635 wm_636 wm_637 wm_479 wm_638 (by decide +kernel) (yRm_le (by decide) (by decide))) (Nat.lt_of_lt_of_le (show 0 < 1 by decide) (by decide)) (mc_X12 (by decide) (by decide)) rfl rfl rfl (Nat.le_of_ble_eq_true rfl) dX12_look_33) (fun u11 hk => ?_)
        clear hv
        have hv := hk
        clear hk
        refine y_iconst (v := 0) E dX12_look_36 (by decide) ?_
        refine y_istore (lv' := [(4, .int 0), (0, .ref (w.1 0)), (1, .int a1), (2, .int a2), (3, .int a3)]) E dX12_look_37 (by decide) rfl ?_
        refine y_iconst (v := 1) E dX12_look_39 (by decide) ?_
        refine y_istore (lv' := [(5, .int 1), (4, .int 0), (0, .ref (w.1 0)), (1, .int a1), (2, .int a2), (3, .int a3)]) E dX12_look_40 (by decide) rfl ?_
        refine y_lv (lv' := [(0, .ref (w.1 0)), (3, .int a3), (4, .int 0), (5, .int 1)]) [2, 5, 1, 0] rfl ?_
        obtain ⟨n0, hv⟩ := hv
        exact hL42 n0 u11 a3 0 1 hv
      · replace hv := ite_t hv c9
        refine y_bipush (v := (-7)) E dX12_look_27 (by decide) ?_
        exact y_iret E dX12_look_29 hv
  · replace hv := ite_t hv c3
    refine y_bipush (v := (-5)) E dX12_look_8 (by decide) ?_
    exact y_iret E dX12_look_10 hv
theorem dX12_went_0 : decode cX12_went 0 = .ok (.aload_n 0, 1) := by decide +kernel
theorem dX12_went_1 : decode cX12_went 1 = .ok (.iload_n 1, 1) := by decide +kernel
theorem dX12_went_2 : decode cX12_went 2 = .ok (.invokevirtual 178, 3) := by decide +kernel
theorem dX12_went_5 : decode cX12_went 5 = .ok (.ifCond .ne 6, 3) := by decide +kernel
theorem dX12_went_8 : decode cX12_went 8 = .ok (.bipush (-5), 2) := by decide +kernel
theorem dX12_went_10 : decode cX12_went 10 = .ok (.ireturn, 1) := by decide +kernel
theorem dX12_went_11 : decode cX12_went 11 = .ok (.iload_n 2, 1) := by decide +kernel
theorem dX12_went_12 : decode cX12_went 12 = .ok (.invokestatic 206, 3) := by decide +kernel
theorem dX12_went_15 : decode cX12_went 15 = .ok (.ifCond .eq 10, 3) := by decide +kernel
theorem dX12_went_18 : decode cX12_went 18 = .ok (.iload_n 3, 1) := by decide +kernel
theorem dX12_went_19 : decode cX12_went 19 = .ok (.invokestatic 79, 3) := by decide +kernel
theorem dX12_went_22 : decode cX12_went 22 = .ok (.ifCond .ne 6, 3) := by decide +kernel
theorem dX12_went_25 : decode cX12_went 25 = .ok (.bipush (-7), 2) := by decide +kernel
theorem dX12_went_27 : decode cX12_went 27 = .ok (.ireturn, 1) := by decide +kernel
theorem dX12_went_28 : decode cX12_went 28 = .ok (.aload_n 0, 1) := by decide +kernel
theorem dX12_went_29 : decode cX12_went 29 = .ok (.iload_n 1, 1) := by decide +kernel
theorem dX12_went_30 : decode cX12_went 30 = .ok (.iload_n 2, 1) := by decide +kernel
theorem dX12_went_31 : decode cX12_went 31 = .ok (.invokevirtual 227, 3) := by decide +kernel
theorem dX12_went_34 : decode cX12_went 34 = .ok (.iconst 0, 1) := by decide +kernel
theorem dX12_went_35 : decode cX12_went 35 = .ok (.istore 4, 2) := by decide +kernel
theorem dX12_went_37 : decode cX12_went 37 = .ok (.iconst 0, 1) := by decide +kernel
theorem dX12_went_38 : decode cX12_went 38 = .ok (.istore 5, 2) := by decide +kernel
theorem dX12_went_40 : decode cX12_went 40 = .ok (.iload 5, 2) := by decide +kernel
theorem dX12_went_42 : decode cX12_went 42 = .ok (.iconst 5, 1) := by decide +kernel
theorem dX12_went_43 : decode cX12_went 43 = .ok (.if_icmp .ge 33, 3) := by decide +kernel
theorem dX12_went_46 : decode cX12_went 46 = .ok (.iload 4, 2) := by decide +kernel
theorem dX12_went_48 : decode cX12_went 48 = .ok (.aload_n 0, 1) := by decide +kernel
theorem dX12_went_49 : decode cX12_went 49 = .ok (.getfield 64, 3) := by decide +kernel
theorem dX12_went_52 : decode cX12_went 52 = .ok (.iload 5, 2) := by decide +kernel
theorem dX12_went_54 : decode cX12_went 54 = .ok (.iaload, 1) := by decide +kernel
theorem dX12_went_55 : decode cX12_went 55 = .ok (.iload_n 3, 1) := by decide +kernel
theorem dX12_went_56 : decode cX12_went 56 = .ok (.if_icmp .ne 10, 3) := by decide +kernel
theorem dX12_went_59 : decode cX12_went 59 = .ok (.iconst 1, 1) := by decide +kernel
theorem dX12_went_60 : decode cX12_went 60 = .ok (.iload 5, 2) := by decide +kernel
theorem dX12_went_62 : decode cX12_went 62 = .ok (.ishl, 1) := by decide +kernel
theorem dX12_went_63 : decode cX12_went 63 = .ok (.goto 4, 3) := by decide +kernel
theorem dX12_went_66 : decode cX12_went 66 = .ok (.iconst 0, 1) := by decide +kernel
theorem dX12_went_67 : decode cX12_went 67 = .ok (.ior, 1) := by decide +kernel
theorem dX12_went_68 : decode cX12_went 68 = .ok (.istore 4, 2) := by decide +kernel
theorem dX12_went_70 : decode cX12_went 70 = .ok (.iinc 5 1, 3) := by decide +kernel
theorem dX12_went_73 : decode cX12_went 73 = .ok (.goto (-33), 3) := by decide +kernel
theorem dX12_went_76 : decode cX12_went 76 = .ok (.iload 4, 2) := by decide +kernel
theorem dX12_went_78 : decode cX12_went 78 = .ok (.ireturn, 1) := by decide +kernel
set_option maxRecDepth 100000 in
set_option maxHeartbeats 4000000 in
theorem kX12_went (l : Launch) (w : wT) (hw : yOk w 20) (σ : Hp) (a1 : Int32) (a2 : Int32) (a3 : Int32) (K : Int32 → Hp → Prop) (hv : VX12_went K σ a1 a2 a3) : yMet l w mcf 20 yX12_went cX12_went 6 (some .int) 7 [.ref (w.1 0), .int a1, .int a2, .int a3] σ (yQi w mcf 20 K) := by
  unfold VX12_went at hv
  refine y_start (lv0 := [(0, .ref (w.1 0)), (1, .int a1), (2, .int a2), (3, .int a3)]) (by decide +kernel) (own := RX12) rfl hw (Nat.le_of_ble_eq_true rfl) rfl (fun p e s m below meth c A E => ?_)
  have hL40 : ∀ (n40 : Nat) (σ : Hp) (l3 : Int32) (l4 : Int32) (l5 : Int32), VX12_went_L40 K n40 σ l3 l4 l5 → YY p l e (yRm 7) s m [.ref (w.1 0), .int a1, .int a2, .int a3].toArray below meth c w mcf 20 A (MQ below (yQi w mcf 20 K A) [.ref (w.1 0), .int a1, .int a2, .int a3].toArray s 0 0 A) 6 σ 40 [(0, .ref (w.1 0)), (3, .int l3), (4, .int l4), (5, .int l5)] [] := by
    intro n40
    induction n40 with
    | zero => exact fun _ _ _ _ hv => (by unfold VX12_went_L40 at hv; exact hv.elim)
    | succ n40 ih40 =>
      intro σ l3 l4 l5 hv
      unfold VX12_went_L40 at hv
      refine y_iload E dX12_went_40 3 rfl ?_
      refine y_iconst (v := 5) E dX12_went_42 (by decide) ?_
      refine y_icmp_ge (tgt := 76) E dX12_went_43 (by decide) (fun c12 => ?_) (fun c12 => ?_)
      · replace hv := ite_t hv c12
        refine y_iload E dX12_went_76 2 rfl ?_
        exact y_iret E dX12_went_78 hv
      · replace hv := ite_f hv c12
        refine y_iload E dX12_went_46 2 rfl ?_
        refine y_aload_n E dX12_went_48 0 rfl ?_
        refine gf_X12_35 E (by decide) (by decide) wm_634 dX12_went_49 ?_
        refine y_iload E dX12_went_52 3 rfl ?_
        obtain ⟨hi, hv⟩ := hv
        refine y_iald E (Nat.lt_of_lt_of_le (show 19 < 20 by decide) (by decide)) (mc_m_wentTo (by decide) (by decide)) hi dX12_went_54 ?_
        refine y_iload_n E dX12_went_55 1 rfl ?_
        refine y_icmp_ne (tgt := 66) E dX12_went_56 (by decide) (fun c13 => ?_) (fun c13 => ?_)
        · replace hv := ite_f hv c13
          refine y_iconst (v := 0) E dX12_went_66 (by decide) ?_
          refine y_ior E dX12_went_67 ?_
          refine y_nmi (fun x14 hx14 => ?_)
          replace hv := hv x14 hx14
          refine y_istore (lv' := [(4, .int x14), (0, .ref (w.1 0)), (3, .int l3), (5, .int l5)]) E dX12_went_68 (by decide) rfl ?_
          obtain ⟨x15, hx15⟩ : ∃ z : Int32, z = l5 + 1 := ⟨_, rfl⟩
          replace hv := hv x15 hx15
          refine y_iinc (v := x15) (lv' := [(5, .int x15), (4, .int x14), (0, .ref (w.1 0)), (3, .int l3)]) E dX12_went_70 3 rfl (by rw [hx15]; rfl) (by decide) rfl ?_
          refine y_goto (tgt := 40) E dX12_went_73 (by decide) ?_
          refine y_lv (lv' := [(0, .ref (w.1 0)), (3, .int l3), (4, .int x14), (5, .int x15)]) [2, 3, 1, 0] rfl ?_
          exact ih40 σ l3 x14 x15 hv
        · replace hv := ite_t hv c13
          refine y_iconst (v := 1) E dX12_went_59 (by decide) ?_
          refine y_iload E dX12_went_60 3 rfl ?_
          refine y_ishl E dX12_went_62 ?_
          refine y_goto (tgt := 67) E dX12_went_63 (by decide) ?_
          refine y_ior E dX12_went_67 ?_
          refine y_nmi (fun x16 hx16 => ?_)
          replace hv := hv x16 hx16
          refine y_istore (lv' := [(4, .int x16), (0, .ref (w.1 0)), (3, .int l3), (5, .int l5)]) E dX12_went_68 (by decide) rfl ?_
          obtain ⟨x17, hx17⟩ : ∃ z : Int32, z = l5 + 1 := ⟨_, rfl⟩
          replace hv := hv x17 hx17
          refine y_iinc (v := x17) (lv' := [(5, .int x17), (4, .int x16), (0, .ref (w.1 0)), (3, .int l3)]) E dX12_went_70 3 rfl (by rw [hx17]; rfl) (by decide) rfl ?_
          refine y_goto (tgt := 40) E dX12_went_73 (by decide) ?_
          refine y_lv (lv' := [(0, .ref (w.1 0)), (3, .int l3), (4, .int x16), (5, .int x17)]) [2, 3, 1, 0] rfl ?_
          exact ih40 σ l3 x16 x17 hv
  refine y_aload_n E dX12_went_0 0 rfl ?_
  refine y_iload_n E dX12_went_1 1 rfl ?_
  refine y_calli E (y_runV E (rest := []) (kX12_isThing l w E.2.2.1 σ a1 _ hv) (y_cwV 1 E.1.2.2.2.2 wm_577 wm_578 wm_579 wm_479 wm_580 (by decide +kernel) (yRm_le (by decide) (by decide))) (Nat.lt_of_lt_of_le (show 0 < 1 by decide) (by decide)) (mc_X12 (by decide) (by decide)) rfl rfl rfl (Nat.le_of_ble_eq_true rfl) dX12_went_2) (fun v1 u2 hk => ?_)
  clear hv
  have hv := hk
  clear hk
  refine y_if_ne (tgt := 11) E dX12_went_5 (by decide) (fun c3 => ?_) (fun c3 => ?_)
  · replace hv := ite_f hv c3
    refine y_iload_n E dX12_went_11 2 rfl ?_
    refine y_calli E (y_runS E (rest := []) (kX12_areSteps l w E.2.2.1 u2 a2 _ hv) (y_cwS 1 E.1.2.2.2.2 wm_606 wm_611 wm_479 wm_612 (by decide +kernel) (yRm_le (by decide) (by decide))) rfl rfl (Nat.le_of_ble_eq_true rfl) dX12_went_12) (fun v4 u5 hk => ?_)
    clear hv
    have hv := hk
    clear hk
    refine y_if_eq (tgt := 25) E dX12_went_15 (by decide) (fun c6 => ?_) (fun c6 => ?_)
    · replace hv := ite_t hv c6
      refine y_bipush (v := (-7)) E dX12_went_25 (by decide) ?_
      exact y_iret E dX12_went_27 hv
    · replace hv := ite_f hv c6
      refine y_iload_n E dX12_went_18 3 rfl ?_
      refine y_calli E (y_runS E (rest := []) (kX12_isCell l w E.2.2.1 u5 a3 _ hv) (y_cwS 1 E.1.2.2.2.2 wm_482 wm_487 wm_479 wm_488 (by decide +kernel) (yRm_le (by decide) (by decide))) rfl rfl (Nat.le_of_ble_eq_true rfl) dX12_went_19) (fun v7 u8 hk => ?_)
      clear hv
      have hv := hk
      clear hk
      refine y_if_ne (tgt := 28) E dX12_went_22 (by decide) (fun c9 => ?_) (fun c9 => ?_)
      · replace hv := ite_f hv c9
        refine y_aload_n E dX12_went_28 0 rfl ?_
        refine y_iload_n E dX12_went_29 1 rfl ?_
        refine y_iload_n E dX12_went_30 2 rfl ?_
        refine y_callv E (y_runV E (rest := []) (kX12_letsGo l w E.2.2.1 u8 a1 a2 _ hv) (y_cwV 2 E.1.2.2.2.2 wm_635 wm_636 wm_637 wm_479 wm_638 (by decide +kernel) (yRm_le (by decide) (by decide))) (Nat.lt_of_lt_of_le (show 0 < 1 by decide) (by decide)) (mc_X12 (by decide) (by decide)) rfl rfl rfl (Nat.le_of_ble_eq_true rfl) dX12_went_31) (fun u11 hk => ?_)
        clear hv
        have hv := hk
        clear hk
        refine y_iconst (v := 0) E dX12_went_34 (by decide) ?_
        refine y_istore (lv' := [(4, .int 0), (0, .ref (w.1 0)), (1, .int a1), (2, .int a2), (3, .int a3)]) E dX12_went_35 (by decide) rfl ?_
        refine y_iconst (v := 0) E dX12_went_37 (by decide) ?_
        refine y_istore (lv' := [(5, .int 0), (4, .int 0), (0, .ref (w.1 0)), (1, .int a1), (2, .int a2), (3, .int a3)]) E dX12_went_38 (by decide) rfl ?_
        refine y_lv (lv' := [(0, .ref (w.1 0)), (3, .int a3), (4, .int 0), (5, .int 0)]) [2, 5, 1, 0] rfl ?_
        obtain ⟨n0, hv⟩ := hv
        exact hL40 n0 u11 a3 0 0 hv
      · replace hv := ite_t hv c9
        refine y_bipush (v := (-7)) E dX12_went_25 (by decide) ?_
        exact y_iret E dX12_went_27 hv
  · replace hv := ite_t hv c3
    refine y_bipush (v := (-5)) E dX12_went_8 (by decide) ?_
    exact y_iret E dX12_went_10 hv
theorem dX12_lowest_0 : decode cX12_lowest 0 = .ok (.lload_n 0, 1) := by decide +kernel
theorem dX12_lowest_1 : decode cX12_lowest 1 = .ok (.lconst 0, 1) := by decide +kernel
theorem dX12_lowest_2 : decode cX12_lowest 2 = .ok (.lcmp, 1) := by decide +kernel
theorem dX12_lowest_3 : decode cX12_lowest 3 = .ok (.ifCond .ne 7, 3) := by decide +kernel
theorem dX12_lowest_6 : decode cX12_lowest 6 = .ok (.iload 4, 2) := by decide +kernel
theorem dX12_lowest_8 : decode cX12_lowest 8 = .ok (.i2l, 1) := by decide +kernel
theorem dX12_lowest_9 : decode cX12_lowest 9 = .ok (.lreturn, 1) := by decide +kernel
theorem dX12_lowest_10 : decode cX12_lowest 10 = .ok (.lload_n 0, 1) := by decide +kernel
theorem dX12_lowest_11 : decode cX12_lowest 11 = .ok (.lstore 5, 2) := by decide +kernel
theorem dX12_lowest_13 : decode cX12_lowest 13 = .ok (.lload_n 2, 1) := by decide +kernel
theorem dX12_lowest_14 : decode cX12_lowest 14 = .ok (.lstore 7, 2) := by decide +kernel
theorem dX12_lowest_16 : decode cX12_lowest 16 = .ok (.lload 7, 2) := by decide +kernel
theorem dX12_lowest_18 : decode cX12_lowest 18 = .ok (.lconst 0, 1) := by decide +kernel
theorem dX12_lowest_19 : decode cX12_lowest 19 = .ok (.lcmp, 1) := by decide +kernel
theorem dX12_lowest_20 : decode cX12_lowest 20 = .ok (.ifCond .eq 21, 3) := by decide +kernel
theorem dX12_lowest_23 : decode cX12_lowest 23 = .ok (.lload 5, 2) := by decide +kernel
theorem dX12_lowest_25 : decode cX12_lowest 25 = .ok (.lload 7, 2) := by decide +kernel
theorem dX12_lowest_27 : decode cX12_lowest 27 = .ok (.lrem, 1) := by decide +kernel
theorem dX12_lowest_28 : decode cX12_lowest 28 = .ok (.lstore 9, 2) := by decide +kernel
theorem dX12_lowest_30 : decode cX12_lowest 30 = .ok (.lload 7, 2) := by decide +kernel
theorem dX12_lowest_32 : decode cX12_lowest 32 = .ok (.lstore 5, 2) := by decide +kernel
theorem dX12_lowest_34 : decode cX12_lowest 34 = .ok (.lload 9, 2) := by decide +kernel
theorem dX12_lowest_36 : decode cX12_lowest 36 = .ok (.lstore 7, 2) := by decide +kernel
theorem dX12_lowest_38 : decode cX12_lowest 38 = .ok (.goto (-22), 3) := by decide +kernel
theorem dX12_lowest_41 : decode cX12_lowest 41 = .ok (.iload 4, 2) := by decide +kernel
theorem dX12_lowest_43 : decode cX12_lowest 43 = .ok (.ifCond .ne 7, 3) := by decide +kernel
theorem dX12_lowest_46 : decode cX12_lowest 46 = .ok (.lload_n 0, 1) := by decide +kernel
theorem dX12_lowest_47 : decode cX12_lowest 47 = .ok (.goto 4, 3) := by decide +kernel
theorem dX12_lowest_50 : decode cX12_lowest 50 = .ok (.lload_n 2, 1) := by decide +kernel
theorem dX12_lowest_51 : decode cX12_lowest 51 = .ok (.lload 5, 2) := by decide +kernel
theorem dX12_lowest_53 : decode cX12_lowest 53 = .ok (.ldiv, 1) := by decide +kernel
theorem dX12_lowest_54 : decode cX12_lowest 54 = .ok (.lreturn, 1) := by decide +kernel
set_option maxRecDepth 100000 in
set_option maxHeartbeats 4000000 in
theorem kX12_lowest (l : Launch) (w : wT) (hw : yOk w 20) (σ : Hp) (a1 : Int64) (a2 : Int64) (a3 : Int32) (K : Int64 → Hp → Prop) (hv : VX12_lowest K σ a1 a2 a3) : yMet l w mcf 20 yX12_lowest cX12_lowest 11 (some .long) 1 [.long a1, .long a2, .int a3] σ (yQl w mcf 20 K) := by
  unfold VX12_lowest at hv
  refine y_start (lv0 := [(0, .long a1), (2, .long a2), (4, .int a3)]) (by decide +kernel) (own := RX12) rfl hw (Nat.le_of_ble_eq_true rfl) rfl (fun p e s m below meth c A E => ?_)
  have hL16 : ∀ (n16 : Nat) (σ : Hp) (l0 : Int64) (l2 : Int64) (l4 : Int32) (l5 : Int64) (l7 : Int64), VX12_lowest_L16 K n16 σ l0 l2 l4 l5 l7 → YY p l e (yRm 1) s m [.long a1, .long a2, .int a3].toArray below meth c w mcf 20 A (MQ below (yQl w mcf 20 K A) [.long a1, .long a2, .int a3].toArray s 0 0 A) 11 σ 16 [(0, .long l0), (2, .long l2), (4, .int l4), (5, .long l5), (7, .long l7)] [] := by
    intro n16
    induction n16 with
    | zero => exact fun _ _ _ _ _ _ hv => (by unfold VX12_lowest_L16 at hv; exact hv.elim)
    | succ n16 ih16 =>
      intro σ l0 l2 l4 l5 l7 hv
      unfold VX12_lowest_L16 at hv
      refine y_lload E dX12_lowest_16 4 rfl ?_
      refine y_lconst (v := 0) E dX12_lowest_18 (by decide) ?_
      refine y_lcmp E dX12_lowest_19 ?_
      refine y_if_eq (tgt := 41) E dX12_lowest_20 (by decide) (fun c2 => ?_) (fun c2 => ?_)
      · replace hv := ite_t hv c2
        refine y_iload E dX12_lowest_41 2 rfl ?_
        refine y_if_ne (tgt := 50) E dX12_lowest_43 (by decide) (fun c3 => ?_) (fun c3 => ?_)
        · replace hv := ite_f hv c3
          refine y_lload_n E dX12_lowest_50 1 rfl ?_
          refine y_lload E dX12_lowest_51 3 rfl ?_
          obtain ⟨hz, hv⟩ := hv
          refine y_ldiv E dX12_lowest_53 hz ?_
          exact y_lret E dX12_lowest_54 hv
        · replace hv := ite_t hv c3
          refine y_lload_n E dX12_lowest_46 0 rfl ?_
          refine y_goto (tgt := 51) E dX12_lowest_47 (by decide) ?_
          refine y_lload E dX12_lowest_51 3 rfl ?_
          obtain ⟨hz, hv⟩ := hv
          refine y_ldiv E dX12_lowest_53 hz ?_
          exact y_lret E dX12_lowest_54 hv
      · replace hv := ite_f hv c2
        refine y_lload E dX12_lowest_23 3 rfl ?_
        refine y_lload E dX12_lowest_25 4 rfl ?_
        obtain ⟨hz, hv⟩ := hv
        refine y_lrem E dX12_lowest_27 hz ?_
        refine y_nml (fun x4 hx4 => ?_)
        replace hv := hv x4 hx4
        refine y_lstore (lv' := [(9, .long x4), (0, .long l0), (2, .long l2), (4, .int l4), (5, .long l5), (7, .long l7)]) E dX12_lowest_28 (by decide) rfl ?_
        refine y_lload E dX12_lowest_30 5 rfl ?_
        refine y_lstore (lv' := [(5, .long l7), (9, .long x4), (0, .long l0), (2, .long l2), (4, .int l4), (7, .long l7)]) E dX12_lowest_32 (by decide) rfl ?_
        refine y_lload E dX12_lowest_34 1 rfl ?_
        refine y_lstore (lv' := [(7, .long x4), (5, .long l7), (9, .long x4), (0, .long l0), (2, .long l2), (4, .int l4)]) E dX12_lowest_36 (by decide) rfl ?_
        refine y_goto (tgt := 16) E dX12_lowest_38 (by decide) ?_
        refine y_lv (lv' := [(0, .long l0), (2, .long l2), (4, .int l4), (5, .long l7), (7, .long x4)]) [3, 4, 5, 1, 0] rfl ?_
        exact ih16 σ l0 l2 l4 l7 x4 hv
  refine y_lload_n E dX12_lowest_0 0 rfl ?_
  refine y_lconst (v := 0) E dX12_lowest_1 (by decide) ?_
  refine y_lcmp E dX12_lowest_2 ?_
  refine y_if_ne (tgt := 10) E dX12_lowest_3 (by decide) (fun c1 => ?_) (fun c1 => ?_)
  · replace hv := ite_f hv c1
    refine y_lload_n E dX12_lowest_10 0 rfl ?_
    refine y_lstore (lv' := [(5, .long a1), (0, .long a1), (2, .long a2), (4, .int a3)]) E dX12_lowest_11 (by decide) rfl ?_
    refine y_lload_n E dX12_lowest_13 2 rfl ?_
    refine y_lstore (lv' := [(7, .long a2), (5, .long a1), (0, .long a1), (2, .long a2), (4, .int a3)]) E dX12_lowest_14 (by decide) rfl ?_
    refine y_lv (lv' := [(0, .long a1), (2, .long a2), (4, .int a3), (5, .long a1), (7, .long a2)]) [2, 3, 4, 1, 0] rfl ?_
    obtain ⟨n0, hv⟩ := hv
    exact hL16 n0 σ a1 a2 a3 a1 a2 hv
  · replace hv := ite_t hv c1
    refine y_iload E dX12_lowest_6 2 rfl ?_
    refine y_i2l E dX12_lowest_8 ?_
    exact y_lret E dX12_lowest_9 hv
theorem dX12_lookFor_0 : decode cX12_lookFor 0 = .ok (.iconst 1, 1) := by decide +kernel
theorem dX12_lookFor_1 : decode cX12_lookFor 1 = .ok (.istore_n 2, 1) := by decide +kernel
theorem dX12_lookFor_2 : decode cX12_lookFor 2 = .ok (.iconst 0, 1) := by decide +kernel
theorem dX12_lookFor_3 : decode cX12_lookFor 3 = .ok (.istore_n 3, 1) := by decide +kernel
theorem dX12_lookFor_4 : decode cX12_lookFor 4 = .ok (.iload_n 3, 1) := by decide +kernel
theorem dX12_lookFor_5 : decode cX12_lookFor 5 = .ok (.bipush 30, 2) := by decide +kernel
theorem dX12_lookFor_7 : decode cX12_lookFor 7 = .ok (.if_icmp .ge 60, 3) := by decide +kernel
theorem dX12_lookFor_10 : decode cX12_lookFor 10 = .ok (.aload_n 0, 1) := by decide +kernel
theorem dX12_lookFor_11 : decode cX12_lookFor 11 = .ok (.iload_n 3, 1) := by decide +kernel
theorem dX12_lookFor_12 : decode cX12_lookFor 12 = .ok (.invokevirtual 230, 3) := by decide +kernel
theorem dX12_lookFor_15 : decode cX12_lookFor 15 = .ok (.aload_n 0, 1) := by decide +kernel
theorem dX12_lookFor_16 : decode cX12_lookFor 16 = .ok (.iload_n 1, 1) := by decide +kernel
theorem dX12_lookFor_17 : decode cX12_lookFor 17 = .ok (.invokevirtual 230, 3) := by decide +kernel
theorem dX12_lookFor_20 : decode cX12_lookFor 20 = .ok (.if_icmp .gt 21, 3) := by decide +kernel
theorem dX12_lookFor_23 : decode cX12_lookFor 23 = .ok (.aload_n 0, 1) := by decide +kernel
theorem dX12_lookFor_24 : decode cX12_lookFor 24 = .ok (.iload_n 3, 1) := by decide +kernel
theorem dX12_lookFor_25 : decode cX12_lookFor 25 = .ok (.invokevirtual 230, 3) := by decide +kernel
theorem dX12_lookFor_28 : decode cX12_lookFor 28 = .ok (.aload_n 0, 1) := by decide +kernel
theorem dX12_lookFor_29 : decode cX12_lookFor 29 = .ok (.iload_n 1, 1) := by decide +kernel
theorem dX12_lookFor_30 : decode cX12_lookFor 30 = .ok (.invokevirtual 230, 3) := by decide +kernel
theorem dX12_lookFor_33 : decode cX12_lookFor 33 = .ok (.if_icmp .ne 12, 3) := by decide +kernel
theorem dX12_lookFor_36 : decode cX12_lookFor 36 = .ok (.iload_n 3, 1) := by decide +kernel
theorem dX12_lookFor_37 : decode cX12_lookFor 37 = .ok (.iload_n 1, 1) := by decide +kernel
theorem dX12_lookFor_38 : decode cX12_lookFor 38 = .ok (.if_icmp .ge 7, 3) := by decide +kernel
theorem dX12_lookFor_41 : decode cX12_lookFor 41 = .ok (.iconst 1, 1) := by decide +kernel
theorem dX12_lookFor_42 : decode cX12_lookFor 42 = .ok (.goto 4, 3) := by decide +kernel
theorem dX12_lookFor_45 : decode cX12_lookFor 45 = .ok (.iconst 0, 1) := by decide +kernel
theorem dX12_lookFor_46 : decode cX12_lookFor 46 = .ok (.istore 4, 2) := by decide +kernel
theorem dX12_lookFor_48 : decode cX12_lookFor 48 = .ok (.iload_n 2, 1) := by decide +kernel
theorem dX12_lookFor_49 : decode cX12_lookFor 49 = .ok (.iload 4, 2) := by decide +kernel
theorem dX12_lookFor_51 : decode cX12_lookFor 51 = .ok (.ifCond .eq 7, 3) := by decide +kernel
theorem dX12_lookFor_54 : decode cX12_lookFor 54 = .ok (.iconst 1, 1) := by decide +kernel
theorem dX12_lookFor_55 : decode cX12_lookFor 55 = .ok (.goto 4, 3) := by decide +kernel
theorem dX12_lookFor_58 : decode cX12_lookFor 58 = .ok (.iconst 0, 1) := by decide +kernel
theorem dX12_lookFor_59 : decode cX12_lookFor 59 = .ok (.iadd, 1) := by decide +kernel
theorem dX12_lookFor_60 : decode cX12_lookFor 60 = .ok (.istore_n 2, 1) := by decide +kernel
theorem dX12_lookFor_61 : decode cX12_lookFor 61 = .ok (.iinc 3 1, 3) := by decide +kernel
theorem dX12_lookFor_64 : decode cX12_lookFor 64 = .ok (.goto (-60), 3) := by decide +kernel
theorem dX12_lookFor_67 : decode cX12_lookFor 67 = .ok (.iload_n 2, 1) := by decide +kernel
theorem dX12_lookFor_68 : decode cX12_lookFor 68 = .ok (.ireturn, 1) := by decide +kernel
set_option maxRecDepth 100000 in
set_option maxHeartbeats 4000000 in
theorem kX12_lookFor (l : Launch) (w : wT) (hw : yOk w 20) (σ : Hp) (a1 : Int32) (K : Int32 → Hp → Prop) (hv : VX12_lookFor K σ a1) : yMet l w mcf 20 yX12_lookFor cX12_lookFor 5 (some .int) 2 [.ref (w.1 0), .int a1] σ (yQi w mcf 20 K) := by
  unfold VX12_lookFor at hv
  refine y_start (lv0 := [(0, .ref (w.1 0)), (1, .int a1)]) (by decide +kernel) (own := RX12) rfl hw (Nat.le_of_ble_eq_true rfl) rfl (fun p e s m below meth c A E => ?_)
  have hL4 : ∀ (n4 : Nat) (σ : Hp) (l1 : Int32) (l2 : Int32) (l3 : Int32), VX12_lookFor_L4 K n4 σ l1 l2 l3 → YY p l e (yRm 2) s m [.ref (w.1 0), .int a1].toArray below meth c w mcf 20 A (MQ below (yQi w mcf 20 K A) [.ref (w.1 0), .int a1].toArray s 0 0 A) 5 σ 4 [(0, .ref (w.1 0)), (1, .int l1), (2, .int l2), (3, .int l3)] [] := by
    intro n4
    induction n4 with
    | zero => exact fun _ _ _ _ hv => (by unfold VX12_lookFor_L4 at hv; exact hv.elim)
    | succ n4 ih4 =>
      have hb46 : ∀ (σ : Hp) (l1 : Int32) (l2 : Int32) (l3 : Int32) (s0 : Int32), VX12_lookFor_b46 K (VX12_lookFor_L4 K n4) σ l1 l2 l3 s0 → YY p l e (yRm 2) s m [.ref (w.1 0), .int a1].toArray below meth c w mcf 20 A (MQ below (yQi w mcf 20 K A) [.ref (w.1 0), .int a1].toArray s 0 0 A) 5 σ 46 [(0, .ref (w.1 0)), (1, .int l1), (2, .int l2), (3, .int l3)] [.int s0] := by
        intro σ l1 l2 l3 s0 hv
        unfold VX12_lookFor_b46 at hv
        refine y_istore (lv' := [(4, .int s0), (0, .ref (w.1 0)), (1, .int l1), (2, .int l2), (3, .int l3)]) E dX12_lookFor_46 (by decide) rfl ?_
        refine y_iload_n E dX12_lookFor_48 3 rfl ?_
        refine y_iload E dX12_lookFor_49 0 rfl ?_
        refine y_if_eq (tgt := 58) E dX12_lookFor_51 (by decide) (fun c13 => ?_) (fun c13 => ?_)
        · replace hv := ite_t hv c13
          refine y_iconst (v := 0) E dX12_lookFor_58 (by decide) ?_
          refine y_iadd E dX12_lookFor_59 ?_
          refine y_nmi (fun x14 hx14 => ?_)
          replace hv := hv x14 hx14
          refine y_istore_n (lv' := [(2, .int x14), (4, .int s0), (0, .ref (w.1 0)), (1, .int l1), (3, .int l3)]) E dX12_lookFor_60 (by decide) rfl ?_
          obtain ⟨x15, hx15⟩ : ∃ z : Int32, z = l3 + 1 := ⟨_, rfl⟩
          replace hv := hv x15 hx15
          refine y_iinc (v := x15) (lv' := [(3, .int x15), (2, .int x14), (4, .int s0), (0, .ref (w.1 0)), (1, .int l1)]) E dX12_lookFor_61 4 rfl (by rw [hx15]; rfl) (by decide) rfl ?_
          refine y_goto (tgt := 4) E dX12_lookFor_64 (by decide) ?_
          refine y_lv (lv' := [(0, .ref (w.1 0)), (1, .int l1), (2, .int x14), (3, .int x15)]) [3, 4, 1, 0] rfl ?_
          exact ih4 σ l1 x14 x15 hv
        · replace hv := ite_f hv c13
          refine y_iconst (v := 1) E dX12_lookFor_54 (by decide) ?_
          refine y_goto (tgt := 59) E dX12_lookFor_55 (by decide) ?_
          refine y_iadd E dX12_lookFor_59 ?_
          refine y_nmi (fun x16 hx16 => ?_)
          replace hv := hv x16 hx16
          refine y_istore_n (lv' := [(2, .int x16), (4, .int s0), (0, .ref (w.1 0)), (1, .int l1), (3, .int l3)]) E dX12_lookFor_60 (by decide) rfl ?_
          obtain ⟨x17, hx17⟩ : ∃ z : Int32, z = l3 + 1 := ⟨_, rfl⟩
          replace hv := hv x17 hx17
          refine y_iinc (v := x17) (lv' := [(3, .int x17), (2, .int x16), (4, .int s0), (0, .ref (w.1 0)), (1, .int l1)]) E dX12_lookFor_61 4 rfl (by rw [hx17]; rfl) (by decide) rfl ?_
          refine y_goto (tgt := 4) E dX12_lookFor_64 (by decide) ?_
          refine y_lv (lv' := [(0, .ref (w.1 0)), (1, .int l1), (2, .int x16), (3, .int x17)]) [3, 4, 1, 0] rfl ?_
          exact ih4 σ l1 x16 x17 hv
      intro σ l1 l2 l3 hv
      unfold VX12_lookFor_L4 at hv
      refine y_iload_n E dX12_lookFor_4 3 rfl ?_
      refine y_bipush (v := 30) E dX12_lookFor_5 (by decide) ?_
      refine y_icmp_ge (tgt := 67) E dX12_lookFor_7 (by decide) (fun c1 => ?_) (fun c1 => ?_)
      · replace hv := ite_t hv c1
        refine y_iload_n E dX12_lookFor_67 2 rfl ?_
        exact y_iret E dX12_lookFor_68 hv
      · replace hv := ite_f hv c1
        refine y_aload_n E dX12_lookFor_10 0 rfl ?_
        refine y_iload_n E dX12_lookFor_11 3 rfl ?_
        refine y_calli E (y_runV E (rest := []) (kX12_byHowMany l w E.2.2.1 σ l3 _ hv) (y_cwV 1 E.1.2.2.2.2 wm_639 wm_640 wm_641 wm_479 wm_642 (by decide +kernel) (yRm_le (by decide) (by decide))) (Nat.lt_of_lt_of_le (show 0 < 1 by decide) (by decide)) (mc_X12 (by decide) (by decide)) rfl rfl rfl (Nat.le_of_ble_eq_true rfl) dX12_lookFor_12) (fun v2 u3 hk => ?_)
        clear hv
        have hv := hk
        clear hk
        refine y_aload_n E dX12_lookFor_15 0 rfl ?_
        refine y_iload_n E dX12_lookFor_16 1 rfl ?_
        refine y_calli E (y_runV E (rest := [.int v2]) (kX12_byHowMany l w E.2.2.1 u3 l1 _ hv) (y_cwV 1 E.1.2.2.2.2 wm_639 wm_640 wm_641 wm_479 wm_642 (by decide +kernel) (yRm_le (by decide) (by decide))) (Nat.lt_of_lt_of_le (show 0 < 1 by decide) (by decide)) (mc_X12 (by decide) (by decide)) rfl rfl rfl (Nat.le_of_ble_eq_true rfl) dX12_lookFor_17) (fun v4 u5 hk => ?_)
        clear hv
        have hv := hk
        clear hk
        refine y_icmp_gt (tgt := 41) E dX12_lookFor_20 (by decide) (fun c6 => ?_) (fun c6 => ?_)
        · replace hv := ite_t hv c6
          refine y_iconst (v := 1) E dX12_lookFor_41 (by decide) ?_
          refine y_goto (tgt := 46) E dX12_lookFor_42 (by decide) ?_
          exact hb46 u5 l1 l2 l3 1 hv
        · replace hv := ite_f hv c6
          refine y_aload_n E dX12_lookFor_23 0 rfl ?_
          refine y_iload_n E dX12_lookFor_24 3 rfl ?_
          refine y_calli E (y_runV E (rest := []) (kX12_byHowMany l w E.2.2.1 u5 l3 _ hv) (y_cwV 1 E.1.2.2.2.2 wm_639 wm_640 wm_641 wm_479 wm_642 (by decide +kernel) (yRm_le (by decide) (by decide))) (Nat.lt_of_lt_of_le (show 0 < 1 by decide) (by decide)) (mc_X12 (by decide) (by decide)) rfl rfl rfl (Nat.le_of_ble_eq_true rfl) dX12_lookFor_25) (fun v7 u8 hk => ?_)
          clear hv
          have hv := hk
          clear hk
          refine y_aload_n E dX12_lookFor_28 0 rfl ?_
          refine y_iload_n E dX12_lookFor_29 1 rfl ?_
          refine y_calli E (y_runV E (rest := [.int v7]) (kX12_byHowMany l w E.2.2.1 u8 l1 _ hv) (y_cwV 1 E.1.2.2.2.2 wm_639 wm_640 wm_641 wm_479 wm_642 (by decide +kernel) (yRm_le (by decide) (by decide))) (Nat.lt_of_lt_of_le (show 0 < 1 by decide) (by decide)) (mc_X12 (by decide) (by decide)) rfl rfl rfl (Nat.le_of_ble_eq_true rfl) dX12_lookFor_30) (fun v9 u10 hk => ?_)
          clear hv
          have hv := hk
          clear hk
          refine y_icmp_ne (tgt := 45) E dX12_lookFor_33 (by decide) (fun c11 => ?_) (fun c11 => ?_)
          · replace hv := ite_f hv c11
            refine y_iconst (v := 0) E dX12_lookFor_45 (by decide) ?_
            exact hb46 u10 l1 l2 l3 0 hv
          · replace hv := ite_t hv c11
            refine y_iload_n E dX12_lookFor_36 3 rfl ?_
            refine y_iload_n E dX12_lookFor_37 1 rfl ?_
            refine y_icmp_ge (tgt := 45) E dX12_lookFor_38 (by decide) (fun c12 => ?_) (fun c12 => ?_)
            · replace hv := ite_t hv c12
              refine y_iconst (v := 0) E dX12_lookFor_45 (by decide) ?_
              exact hb46 u10 l1 l2 l3 0 hv
            · replace hv := ite_f hv c12
              refine y_iconst (v := 1) E dX12_lookFor_41 (by decide) ?_
              refine y_goto (tgt := 46) E dX12_lookFor_42 (by decide) ?_
              exact hb46 u10 l1 l2 l3 1 hv
  refine y_iconst (v := 1) E dX12_lookFor_0 (by decide) ?_
  refine y_istore_n (lv' := [(2, .int 1), (0, .ref (w.1 0)), (1, .int a1)]) E dX12_lookFor_1 (by decide) rfl ?_
  refine y_iconst (v := 0) E dX12_lookFor_2 (by decide) ?_
  refine y_istore_n (lv' := [(3, .int 0), (2, .int 1), (0, .ref (w.1 0)), (1, .int a1)]) E dX12_lookFor_3 (by decide) rfl ?_
  refine y_lv (lv' := [(0, .ref (w.1 0)), (1, .int a1), (2, .int 1), (3, .int 0)]) [2, 3, 1, 0] rfl ?_
  obtain ⟨n0, hv⟩ := hv
  exact hL4 n0 σ a1 1 0 hv
theorem dX12_search_0 : decode cX12_search 0 = .ok (.aload_n 0, 1) := by decide +kernel
theorem dX12_search_1 : decode cX12_search 1 = .ok (.iload_n 1, 1) := by decide +kernel
theorem dX12_search_2 : decode cX12_search 2 = .ok (.invokevirtual 178, 3) := by decide +kernel
theorem dX12_search_5 : decode cX12_search 5 = .ok (.ifCond .eq 19, 3) := by decide +kernel
theorem dX12_search_8 : decode cX12_search 8 = .ok (.iload_n 2, 1) := by decide +kernel
theorem dX12_search_9 : decode cX12_search 9 = .ok (.invokestatic 206, 3) := by decide +kernel
theorem dX12_search_12 : decode cX12_search 12 = .ok (.ifCond .eq 12, 3) := by decide +kernel
theorem dX12_search_15 : decode cX12_search 15 = .ok (.iload_n 3, 1) := by decide +kernel
theorem dX12_search_16 : decode cX12_search 16 = .ok (.iconst 0, 1) := by decide +kernel
theorem dX12_search_17 : decode cX12_search 17 = .ok (.iconst 1, 1) := by decide +kernel
theorem dX12_search_18 : decode cX12_search 18 = .ok (.invokestatic 75, 3) := by decide +kernel
theorem dX12_search_21 : decode cX12_search 21 = .ok (.ifCond .ne 7, 3) := by decide +kernel
theorem dX12_search_24 : decode cX12_search 24 = .ok (.ldc2_w 233, 3) := by decide +kernel
theorem dX12_search_27 : decode cX12_search 27 = .ok (.lreturn, 1) := by decide +kernel
theorem dX12_search_28 : decode cX12_search 28 = .ok (.aload_n 0, 1) := by decide +kernel
theorem dX12_search_29 : decode cX12_search 29 = .ok (.iload_n 1, 1) := by decide +kernel
theorem dX12_search_30 : decode cX12_search 30 = .ok (.iload_n 2, 1) := by decide +kernel
theorem dX12_search_31 : decode cX12_search 31 = .ok (.invokevirtual 227, 3) := by decide +kernel
theorem dX12_search_34 : decode cX12_search 34 = .ok (.lconst 0, 1) := by decide +kernel
theorem dX12_search_35 : decode cX12_search 35 = .ok (.lstore 4, 2) := by decide +kernel
theorem dX12_search_37 : decode cX12_search 37 = .ok (.iconst 0, 1) := by decide +kernel
theorem dX12_search_38 : decode cX12_search 38 = .ok (.istore 6, 2) := by decide +kernel
theorem dX12_search_40 : decode cX12_search 40 = .ok (.iload 6, 2) := by decide +kernel
theorem dX12_search_42 : decode cX12_search 42 = .ok (.iconst 5, 1) := by decide +kernel
theorem dX12_search_43 : decode cX12_search 43 = .ok (.if_icmp .ge 26, 3) := by decide +kernel
theorem dX12_search_46 : decode cX12_search 46 = .ok (.lload 4, 2) := by decide +kernel
theorem dX12_search_48 : decode cX12_search 48 = .ok (.aload_n 0, 1) := by decide +kernel
theorem dX12_search_49 : decode cX12_search 49 = .ok (.aload_n 0, 1) := by decide +kernel
theorem dX12_search_50 : decode cX12_search 50 = .ok (.getfield 64, 3) := by decide +kernel
theorem dX12_search_53 : decode cX12_search 53 = .ok (.iload 6, 2) := by decide +kernel
theorem dX12_search_55 : decode cX12_search 55 = .ok (.iaload, 1) := by decide +kernel
theorem dX12_search_56 : decode cX12_search 56 = .ok (.invokevirtual 235, 3) := by decide +kernel
theorem dX12_search_59 : decode cX12_search 59 = .ok (.i2l, 1) := by decide +kernel
theorem dX12_search_60 : decode cX12_search 60 = .ok (.ladd, 1) := by decide +kernel
theorem dX12_search_61 : decode cX12_search 61 = .ok (.lstore 4, 2) := by decide +kernel
theorem dX12_search_63 : decode cX12_search 63 = .ok (.iinc 6 1, 3) := by decide +kernel
theorem dX12_search_66 : decode cX12_search 66 = .ok (.goto (-26), 3) := by decide +kernel
theorem dX12_search_69 : decode cX12_search 69 = .ok (.lload 4, 2) := by decide +kernel
theorem dX12_search_71 : decode cX12_search 71 = .ok (.ldc2_w 238, 3) := by decide +kernel
theorem dX12_search_74 : decode cX12_search 74 = .ok (.iload_n 3, 1) := by decide +kernel
theorem dX12_search_75 : decode cX12_search 75 = .ok (.invokestatic 240, 3) := by decide +kernel
theorem dX12_search_78 : decode cX12_search 78 = .ok (.lreturn, 1) := by decide +kernel
set_option maxRecDepth 100000 in
set_option maxHeartbeats 4000000 in
theorem kX12_search (l : Launch) (w : wT) (hw : yOk w 20) (σ : Hp) (a1 : Int32) (a2 : Int32) (a3 : Int32) (K : Int64 → Hp → Prop) (hv : VX12_search K σ a1 a2 a3) : yMet l w mcf 20 yX12_search cX12_search 7 (some .long) 7 [.ref (w.1 0), .int a1, .int a2, .int a3] σ (yQl w mcf 20 K) := by
  unfold VX12_search at hv
  refine y_start (lv0 := [(0, .ref (w.1 0)), (1, .int a1), (2, .int a2), (3, .int a3)]) (by decide +kernel) (own := RX12) rfl hw (Nat.le_of_ble_eq_true rfl) rfl (fun p e s m below meth c A E => ?_)
  have hL40 : ∀ (n40 : Nat) (σ : Hp) (l3 : Int32) (l4 : Int64) (l6 : Int32), VX12_search_L40 K n40 σ l3 l4 l6 → YY p l e (yRm 7) s m [.ref (w.1 0), .int a1, .int a2, .int a3].toArray below meth c w mcf 20 A (MQ below (yQl w mcf 20 K A) [.ref (w.1 0), .int a1, .int a2, .int a3].toArray s 0 0 A) 7 σ 40 [(0, .ref (w.1 0)), (3, .int l3), (4, .long l4), (6, .int l6)] [] := by
    intro n40
    induction n40 with
    | zero => exact fun _ _ _ _ hv => (by unfold VX12_search_L40 at hv; exact hv.elim)
    | succ n40 ih40 =>
      intro σ l3 l4 l6 hv
      unfold VX12_search_L40 at hv
      refine y_iload E dX12_search_40 3 rfl ?_
      refine y_iconst (v := 5) E dX12_search_42 (by decide) ?_
      refine y_icmp_ge (tgt := 69) E dX12_search_43 (by decide) (fun c12 => ?_) (fun c12 => ?_)
      · replace hv := ite_t hv c12
        refine y_lload E dX12_search_69 2 rfl ?_
        refine y_ldc2 (v := 5) E wm_644 dX12_search_71 ?_
        refine y_iload_n E dX12_search_74 1 rfl ?_
        refine y_calll E (y_runS E (rest := []) (kX12_lowest l w E.2.2.1 σ l4 5 l3 _ hv) (y_cwS 3 E.1.2.2.2.2 wm_645 wm_646 wm_479 wm_647 (by decide +kernel) (yRm_le (by decide) (by decide))) rfl rfl (Nat.le_of_ble_eq_true rfl) dX12_search_75) (fun v13 u14 hk => ?_)
        clear hv
        have hv := hk
        clear hk
        exact y_lret E dX12_search_78 hv
      · replace hv := ite_f hv c12
        refine y_lload E dX12_search_46 2 rfl ?_
        refine y_aload_n E dX12_search_48 0 rfl ?_
        refine y_aload_n E dX12_search_49 0 rfl ?_
        refine gf_X12_35 E (by decide) (by decide) wm_634 dX12_search_50 ?_
        refine y_iload E dX12_search_53 3 rfl ?_
        obtain ⟨hi, hv⟩ := hv
        refine y_iald E (Nat.lt_of_lt_of_le (show 19 < 20 by decide) (by decide)) (mc_m_wentTo (by decide) (by decide)) hi dX12_search_55 ?_
        refine y_calli E (y_runV E (rest := [.long l4]) (kX12_lookFor l w E.2.2.1 σ (σ 19 l6.toNatClampNeg) _ hv) (y_cwV 1 E.1.2.2.2.2 wm_648 wm_649 wm_650 wm_479 wm_651 (by decide +kernel) (yRm_le (by decide) (by decide))) (Nat.lt_of_lt_of_le (show 0 < 1 by decide) (by decide)) (mc_X12 (by decide) (by decide)) rfl rfl rfl (Nat.le_of_ble_eq_true rfl) dX12_search_56) (fun v15 u16 hk => ?_)
        clear hv
        have hv := hk
        clear hk
        refine y_i2l E dX12_search_59 ?_
        refine y_ladd E dX12_search_60 ?_
        refine y_nml (fun x17 hx17 => ?_)
        replace hv := hv x17 hx17
        refine y_lstore (lv' := [(4, .long x17), (0, .ref (w.1 0)), (3, .int l3), (6, .int l6)]) E dX12_search_61 (by decide) rfl ?_
        obtain ⟨x18, hx18⟩ : ∃ z : Int32, z = l6 + 1 := ⟨_, rfl⟩
        replace hv := hv x18 hx18
        refine y_iinc (v := x18) (lv' := [(6, .int x18), (4, .long x17), (0, .ref (w.1 0)), (3, .int l3)]) E dX12_search_63 3 rfl (by rw [hx18]; rfl) (by decide) rfl ?_
        refine y_goto (tgt := 40) E dX12_search_66 (by decide) ?_
        refine y_lv (lv' := [(0, .ref (w.1 0)), (3, .int l3), (4, .long x17), (6, .int x18)]) [2, 3, 1, 0] rfl ?_
        exact ih40 u16 l3 x17 x18 hv
  refine y_aload_n E dX12_search_0 0 rfl ?_
  refine y_iload_n E dX12_search_1 1 rfl ?_
  refine y_calli E (y_runV E (rest := []) (kX12_isThing l w E.2.2.1 σ a1 _ hv) (y_cwV 1 E.1.2.2.2.2 wm_577 wm_578 wm_579 wm_479 wm_580 (by decide +kernel) (yRm_le (by decide) (by decide))) (Nat.lt_of_lt_of_le (show 0 < 1 by decide) (by decide)) (mc_X12 (by decide) (by decide)) rfl rfl rfl (Nat.le_of_ble_eq_true rfl) dX12_search_2) (fun v1 u2 hk => ?_)
  clear hv
  have hv := hk
  clear hk
  refine y_if_eq (tgt := 24) E dX12_search_5 (by decide) (fun c3 => ?_) (fun c3 => ?_)
  · replace hv := ite_t hv c3
    refine y_ldc2 (v := (-4611686018427387904)) E wm_643 dX12_search_24 ?_
    exact y_lret E dX12_search_27 hv
  · replace hv := ite_f hv c3
    refine y_iload_n E dX12_search_8 2 rfl ?_
    refine y_calli E (y_runS E (rest := []) (kX12_areSteps l w E.2.2.1 u2 a2 _ hv) (y_cwS 1 E.1.2.2.2.2 wm_606 wm_611 wm_479 wm_612 (by decide +kernel) (yRm_le (by decide) (by decide))) rfl rfl (Nat.le_of_ble_eq_true rfl) dX12_search_9) (fun v4 u5 hk => ?_)
    clear hv
    have hv := hk
    clear hk
    refine y_if_eq (tgt := 24) E dX12_search_12 (by decide) (fun c6 => ?_) (fun c6 => ?_)
    · replace hv := ite_t hv c6
      refine y_ldc2 (v := (-4611686018427387904)) E wm_643 dX12_search_24 ?_
      exact y_lret E dX12_search_27 hv
    · replace hv := ite_f hv c6
      refine y_iload_n E dX12_search_15 3 rfl ?_
      refine y_iconst (v := 0) E dX12_search_16 (by decide) ?_
      refine y_iconst (v := 1) E dX12_search_17 (by decide) ?_
      refine y_calli E (y_runS E (rest := []) (kX12_in l w E.2.2.1 u5 a3 0 1 _ hv) (y_cwS 3 E.1.2.2.2.2 wm_477 wm_478 wm_479 wm_480 (by decide +kernel) (yRm_le (by decide) (by decide))) rfl rfl (Nat.le_of_ble_eq_true rfl) dX12_search_18) (fun v7 u8 hk => ?_)
      clear hv
      have hv := hk
      clear hk
      refine y_if_ne (tgt := 28) E dX12_search_21 (by decide) (fun c9 => ?_) (fun c9 => ?_)
      · replace hv := ite_f hv c9
        refine y_aload_n E dX12_search_28 0 rfl ?_
        refine y_iload_n E dX12_search_29 1 rfl ?_
        refine y_iload_n E dX12_search_30 2 rfl ?_
        refine y_callv E (y_runV E (rest := []) (kX12_letsGo l w E.2.2.1 u8 a1 a2 _ hv) (y_cwV 2 E.1.2.2.2.2 wm_635 wm_636 wm_637 wm_479 wm_638 (by decide +kernel) (yRm_le (by decide) (by decide))) (Nat.lt_of_lt_of_le (show 0 < 1 by decide) (by decide)) (mc_X12 (by decide) (by decide)) rfl rfl rfl (Nat.le_of_ble_eq_true rfl) dX12_search_31) (fun u11 hk => ?_)
        clear hv
        have hv := hk
        clear hk
        refine y_lconst (v := 0) E dX12_search_34 (by decide) ?_
        refine y_lstore (lv' := [(4, .long 0), (0, .ref (w.1 0)), (1, .int a1), (2, .int a2), (3, .int a3)]) E dX12_search_35 (by decide) rfl ?_
        refine y_iconst (v := 0) E dX12_search_37 (by decide) ?_
        refine y_istore (lv' := [(6, .int 0), (4, .long 0), (0, .ref (w.1 0)), (1, .int a1), (2, .int a2), (3, .int a3)]) E dX12_search_38 (by decide) rfl ?_
        refine y_lv (lv' := [(0, .ref (w.1 0)), (3, .int a3), (4, .long 0), (6, .int 0)]) [2, 5, 1, 0] rfl ?_
        obtain ⟨n0, hv⟩ := hv
        exact hL40 n0 u11 a3 0 0 hv
      · replace hv := ite_t hv c9
        refine y_ldc2 (v := (-4611686018427387904)) E wm_643 dX12_search_24 ?_
        exact y_lret E dX12_search_27 hv
theorem dX12_sheetWrong_0 : decode cX12_sheetWrong 0 = .ok (.iload_n 1, 1) := by decide +kernel
theorem dX12_sheetWrong_1 : decode cX12_sheetWrong 1 = .ok (.iconst 0, 1) := by decide +kernel
theorem dX12_sheetWrong_2 : decode cX12_sheetWrong 2 = .ok (.iconst 3, 1) := by decide +kernel
theorem dX12_sheetWrong_3 : decode cX12_sheetWrong 3 = .ok (.invokestatic 75, 3) := by decide +kernel
theorem dX12_sheetWrong_6 : decode cX12_sheetWrong 6 = .ok (.ifCond .ne 6, 3) := by decide +kernel
theorem dX12_sheetWrong_9 : decode cX12_sheetWrong 9 = .ok (.bipush (-2), 2) := by decide +kernel
theorem dX12_sheetWrong_11 : decode cX12_sheetWrong 11 = .ok (.ireturn, 1) := by decide +kernel
theorem dX12_sheetWrong_12 : decode cX12_sheetWrong 12 = .ok (.aload_n 0, 1) := by decide +kernel
theorem dX12_sheetWrong_13 : decode cX12_sheetWrong 13 = .ok (.getfield 37, 3) := by decide +kernel
theorem dX12_sheetWrong_16 : decode cX12_sheetWrong 16 = .ok (.iload_n 1, 1) := by decide +kernel
theorem dX12_sheetWrong_17 : decode cX12_sheetWrong 17 = .ok (.iaload, 1) := by decide +kernel
theorem dX12_sheetWrong_18 : decode cX12_sheetWrong 18 = .ok (.iconst (-1), 1) := by decide +kernel
theorem dX12_sheetWrong_19 : decode cX12_sheetWrong 19 = .ok (.if_icmp .ne 6, 3) := by decide +kernel
theorem dX12_sheetWrong_22 : decode cX12_sheetWrong 22 = .ok (.bipush (-11), 2) := by decide +kernel
theorem dX12_sheetWrong_24 : decode cX12_sheetWrong 24 = .ok (.ireturn, 1) := by decide +kernel
theorem dX12_sheetWrong_25 : decode cX12_sheetWrong 25 = .ok (.aload_n 0, 1) := by decide +kernel
theorem dX12_sheetWrong_26 : decode cX12_sheetWrong 26 = .ok (.getfield 40, 3) := by decide +kernel
theorem dX12_sheetWrong_29 : decode cX12_sheetWrong 29 = .ok (.iload_n 1, 1) := by decide +kernel
theorem dX12_sheetWrong_30 : decode cX12_sheetWrong 30 = .ok (.iaload, 1) := by decide +kernel
theorem dX12_sheetWrong_31 : decode cX12_sheetWrong 31 = .ok (.aload_n 0, 1) := by decide +kernel
theorem dX12_sheetWrong_32 : decode cX12_sheetWrong 32 = .ok (.getfield 87, 3) := by decide +kernel
theorem dX12_sheetWrong_35 : decode cX12_sheetWrong 35 = .ok (.if_icmp .ne 7, 3) := by decide +kernel
theorem dX12_sheetWrong_38 : decode cX12_sheetWrong 38 = .ok (.iconst 0, 1) := by decide +kernel
theorem dX12_sheetWrong_39 : decode cX12_sheetWrong 39 = .ok (.goto 5, 3) := by decide +kernel
theorem dX12_sheetWrong_42 : decode cX12_sheetWrong 42 = .ok (.bipush (-2), 2) := by decide +kernel
theorem dX12_sheetWrong_44 : decode cX12_sheetWrong 44 = .ok (.ireturn, 1) := by decide +kernel
set_option maxRecDepth 100000 in
set_option maxHeartbeats 4000000 in
theorem kX12_sheetWrong (l : Launch) (w : wT) (hw : yOk w 20) (σ : Hp) (a1 : Int32) (K : Int32 → Hp → Prop) (hv : VX12_sheetWrong K σ a1) : yMet l w mcf 20 yX12_sheetWrong cX12_sheetWrong 2 (some .int) 2 [.ref (w.1 0), .int a1] σ (yQi w mcf 20 K) := by
  unfold VX12_sheetWrong at hv
  refine y_start (lv0 := [(0, .ref (w.1 0)), (1, .int a1)]) (by decide +kernel) (own := RX12) rfl hw (Nat.le_of_ble_eq_true rfl) rfl (fun p e s m below meth c A E => ?_)
  refine y_iload_n E dX12_sheetWrong_0 1 rfl ?_
  refine y_iconst (v := 0) E dX12_sheetWrong_1 (by decide) ?_
  refine y_iconst (v := 3) E dX12_sheetWrong_2 (by decide) ?_
  refine y_calli E (y_runS E (rest := []) (kX12_in l w E.2.2.1 σ a1 0 3 _ hv) (y_cwS 3 E.1.2.2.2.2 wm_477 wm_478 wm_479 wm_480 (by decide +kernel) (yRm_le (by decide) (by decide))) rfl rfl (Nat.le_of_ble_eq_true rfl) dX12_sheetWrong_3) (fun v1 u2 hk => ?_)
  clear hv
  have hv := hk
  clear hk
  refine y_if_ne (tgt := 12) E dX12_sheetWrong_6 (by decide) (fun c3 => ?_) (fun c3 => ?_)
  · replace hv := ite_f hv c3
    refine y_aload_n E dX12_sheetWrong_12 0 rfl ?_
    refine gf_X12_17 E (by decide) (by decide) wm_652 dX12_sheetWrong_13 ?_
    refine y_iload_n E dX12_sheetWrong_16 1 rfl ?_
    obtain ⟨hi, hv⟩ := hv
    refine y_iald E (Nat.lt_of_lt_of_le (show 10 < 11 by decide) (by decide)) (mc_m_sheetSort (by decide) (by decide)) hi dX12_sheetWrong_17 ?_
    refine y_iconst (v := (-1)) E dX12_sheetWrong_18 (by decide) ?_
    refine y_icmp_ne (tgt := 25) E dX12_sheetWrong_19 (by decide) (fun c4 => ?_) (fun c4 => ?_)
    · replace hv := ite_f hv c4
      refine y_aload_n E dX12_sheetWrong_25 0 rfl ?_
      refine gf_X12_18 E (by decide) (by decide) wm_653 dX12_sheetWrong_26 ?_
      refine y_iload_n E dX12_sheetWrong_29 1 rfl ?_
      obtain ⟨hi, hv⟩ := hv
      refine y_iald E (Nat.lt_of_lt_of_le (show 11 < 12 by decide) (by decide)) (mc_m_sheetSize (by decide) (by decide)) hi dX12_sheetWrong_30 ?_
      refine y_aload_n E dX12_sheetWrong_31 0 rfl ?_
      refine gf_X12_2 E (by decide) (by decide) wm_489 dX12_sheetWrong_32 ?_
      refine y_icmp_ne (tgt := 42) E dX12_sheetWrong_35 (by decide) (fun c5 => ?_) (fun c5 => ?_)
      · replace hv := ite_f hv c5
        refine y_bipush (v := (-2)) E dX12_sheetWrong_42 (by decide) ?_
        exact y_iret E dX12_sheetWrong_44 hv
      · replace hv := ite_t hv c5
        refine y_iconst (v := 0) E dX12_sheetWrong_38 (by decide) ?_
        refine y_goto (tgt := 44) E dX12_sheetWrong_39 (by decide) ?_
        exact y_iret E dX12_sheetWrong_44 hv
    · replace hv := ite_t hv c4
      refine y_bipush (v := (-11)) E dX12_sheetWrong_22 (by decide) ?_
      exact y_iret E dX12_sheetWrong_24 hv
  · replace hv := ite_t hv c3
    refine y_bipush (v := (-2)) E dX12_sheetWrong_9 (by decide) ?_
    exact y_iret E dX12_sheetWrong_11 hv
theorem dX12_toldWrong_0 : decode cX12_toldWrong 0 = .ok (.aload_n 0, 1) := by decide +kernel
theorem dX12_toldWrong_1 : decode cX12_toldWrong 1 = .ok (.iload_n 1, 1) := by decide +kernel
theorem dX12_toldWrong_2 : decode cX12_toldWrong 2 = .ok (.invokevirtual 244, 3) := by decide +kernel
theorem dX12_toldWrong_5 : decode cX12_toldWrong 5 = .ok (.istore_n 3, 1) := by decide +kernel
theorem dX12_toldWrong_6 : decode cX12_toldWrong 6 = .ok (.iload_n 3, 1) := by decide +kernel
theorem dX12_toldWrong_7 : decode cX12_toldWrong 7 = .ok (.ifCond .eq 7, 3) := by decide +kernel
theorem dX12_toldWrong_10 : decode cX12_toldWrong 10 = .ok (.iload_n 3, 1) := by decide +kernel
theorem dX12_toldWrong_11 : decode cX12_toldWrong 11 = .ok (.goto 16, 3) := by decide +kernel
theorem dX12_toldWrong_14 : decode cX12_toldWrong 14 = .ok (.iload_n 2, 1) := by decide +kernel
theorem dX12_toldWrong_15 : decode cX12_toldWrong 15 = .ok (.invokestatic 206, 3) := by decide +kernel
theorem dX12_toldWrong_18 : decode cX12_toldWrong 18 = .ok (.ifCond .eq 7, 3) := by decide +kernel
theorem dX12_toldWrong_21 : decode cX12_toldWrong 21 = .ok (.iconst 0, 1) := by decide +kernel
theorem dX12_toldWrong_22 : decode cX12_toldWrong 22 = .ok (.goto 5, 3) := by decide +kernel
theorem dX12_toldWrong_25 : decode cX12_toldWrong 25 = .ok (.bipush (-7), 2) := by decide +kernel
theorem dX12_toldWrong_27 : decode cX12_toldWrong 27 = .ok (.ireturn, 1) := by decide +kernel
set_option maxRecDepth 100000 in
set_option maxHeartbeats 4000000 in
theorem kX12_toldWrong (l : Launch) (w : wT) (hw : yOk w 20) (σ : Hp) (a1 : Int32) (a2 : Int32) (K : Int32 → Hp → Prop) (hv : VX12_toldWrong K σ a1 a2) : yMet l w mcf 20 yX12_toldWrong cX12_toldWrong 4 (some .int) 3 [.ref (w.1 0), .int a1, .int a2] σ (yQi w mcf 20 K) := by
  unfold VX12_toldWrong at hv
  refine y_start (lv0 := [(0, .ref (w.1 0)), (1, .int a1), (2, .int a2)]) (by decide +kernel) (own := RX12) rfl hw (Nat.le_of_ble_eq_true rfl) rfl (fun p e s m below meth c A E => ?_)
  refine y_aload_n E dX12_toldWrong_0 0 rfl ?_
  refine y_iload_n E dX12_toldWrong_1 1 rfl ?_
  refine y_calli E (y_runV E (rest := []) (kX12_sheetWrong l w E.2.2.1 σ a1 _ hv) (y_cwV 1 E.1.2.2.2.2 wm_654 wm_655 wm_656 wm_479 wm_657 (by decide +kernel) (yRm_le (by decide) (by decide))) (Nat.lt_of_lt_of_le (show 0 < 1 by decide) (by decide)) (mc_X12 (by decide) (by decide)) rfl rfl rfl (Nat.le_of_ble_eq_true rfl) dX12_toldWrong_2) (fun v1 u2 hk => ?_)
  clear hv
  have hv := hk
  clear hk
  refine y_istore_n (lv' := [(3, .int v1), (0, .ref (w.1 0)), (1, .int a1), (2, .int a2)]) E dX12_toldWrong_5 (by decide) rfl ?_
  refine y_iload_n E dX12_toldWrong_6 0 rfl ?_
  refine y_if_eq (tgt := 14) E dX12_toldWrong_7 (by decide) (fun c3 => ?_) (fun c3 => ?_)
  · replace hv := ite_t hv c3
    refine y_iload_n E dX12_toldWrong_14 3 rfl ?_
    refine y_calli E (y_runS E (rest := []) (kX12_areSteps l w E.2.2.1 u2 a2 _ hv) (y_cwS 1 E.1.2.2.2.2 wm_606 wm_611 wm_479 wm_612 (by decide +kernel) (yRm_le (by decide) (by decide))) rfl rfl (Nat.le_of_ble_eq_true rfl) dX12_toldWrong_15) (fun v4 u5 hk => ?_)
    clear hv
    have hv := hk
    clear hk
    refine y_if_eq (tgt := 25) E dX12_toldWrong_18 (by decide) (fun c6 => ?_) (fun c6 => ?_)
    · replace hv := ite_t hv c6
      refine y_bipush (v := (-7)) E dX12_toldWrong_25 (by decide) ?_
      exact y_iret E dX12_toldWrong_27 hv
    · replace hv := ite_f hv c6
      refine y_iconst (v := 0) E dX12_toldWrong_21 (by decide) ?_
      refine y_goto (tgt := 27) E dX12_toldWrong_22 (by decide) ?_
      exact y_iret E dX12_toldWrong_27 hv
  · replace hv := ite_f hv c3
    refine y_iload_n E dX12_toldWrong_10 0 rfl ?_
    refine y_goto (tgt := 27) E dX12_toldWrong_11 (by decide) ?_
    exact y_iret E dX12_toldWrong_27 hv
theorem dX12_unlike_0 : decode cX12_unlike 0 = .ok (.iconst 0, 1) := by decide +kernel
theorem dX12_unlike_1 : decode cX12_unlike 1 = .ok (.istore_n 3, 1) := by decide +kernel
theorem dX12_unlike_2 : decode cX12_unlike 2 = .ok (.iload_n 3, 1) := by decide +kernel
theorem dX12_unlike_3 : decode cX12_unlike 3 = .ok (.aload_n 0, 1) := by decide +kernel
theorem dX12_unlike_4 : decode cX12_unlike 4 = .ok (.getfield 87, 3) := by decide +kernel
theorem dX12_unlike_7 : decode cX12_unlike 7 = .ok (.if_icmp .ge 31, 3) := by decide +kernel
theorem dX12_unlike_10 : decode cX12_unlike 10 = .ok (.aload_n 0, 1) := by decide +kernel
theorem dX12_unlike_11 : decode cX12_unlike 11 = .ok (.getfield 43, 3) := by decide +kernel
theorem dX12_unlike_14 : decode cX12_unlike 14 = .ok (.bipush 40, 2) := by decide +kernel
theorem dX12_unlike_16 : decode cX12_unlike 16 = .ok (.iload_n 1, 1) := by decide +kernel
theorem dX12_unlike_17 : decode cX12_unlike 17 = .ok (.imul, 1) := by decide +kernel
theorem dX12_unlike_18 : decode cX12_unlike 18 = .ok (.iload_n 3, 1) := by decide +kernel
theorem dX12_unlike_19 : decode cX12_unlike 19 = .ok (.iadd, 1) := by decide +kernel
theorem dX12_unlike_20 : decode cX12_unlike 20 = .ok (.iaload, 1) := by decide +kernel
theorem dX12_unlike_21 : decode cX12_unlike 21 = .ok (.aload_n 0, 1) := by decide +kernel
theorem dX12_unlike_22 : decode cX12_unlike 22 = .ok (.iload_n 3, 1) := by decide +kernel
theorem dX12_unlike_23 : decode cX12_unlike 23 = .ok (.iload_n 2, 1) := by decide +kernel
theorem dX12_unlike_24 : decode cX12_unlike 24 = .ok (.invokevirtual 209, 3) := by decide +kernel
theorem dX12_unlike_27 : decode cX12_unlike 27 = .ok (.if_icmp .eq 5, 3) := by decide +kernel
theorem dX12_unlike_30 : decode cX12_unlike 30 = .ok (.iload_n 3, 1) := by decide +kernel
theorem dX12_unlike_31 : decode cX12_unlike 31 = .ok (.ireturn, 1) := by decide +kernel
theorem dX12_unlike_32 : decode cX12_unlike 32 = .ok (.iinc 3 1, 3) := by decide +kernel
theorem dX12_unlike_35 : decode cX12_unlike 35 = .ok (.goto (-33), 3) := by decide +kernel
theorem dX12_unlike_38 : decode cX12_unlike 38 = .ok (.iconst (-1), 1) := by decide +kernel
theorem dX12_unlike_39 : decode cX12_unlike 39 = .ok (.ireturn, 1) := by decide +kernel
set_option maxRecDepth 100000 in
set_option maxHeartbeats 4000000 in
theorem kX12_unlike (l : Launch) (w : wT) (hw : yOk w 20) (σ : Hp) (a1 : Int32) (a2 : Int32) (K : Int32 → Hp → Prop) (hv : VX12_unlike K σ a1 a2) : yMet l w mcf 20 yX12_unlike cX12_unlike 4 (some .int) 7 [.ref (w.1 0), .int a1, .int a2] σ (yQi w mcf 20 K) := by
  unfold VX12_unlike at hv
  refine y_start (lv0 := [(0, .ref (w.1 0)), (1, .int a1), (2, .int a2)]) (by decide +kernel) (own := RX12) rfl hw (Nat.le_of_ble_eq_true rfl) rfl (fun p e s m below meth c A E => ?_)
  have hL2 : ∀ (n2 : Nat) (σ : Hp) (l1 : Int32) (l2 : Int32) (l3 : Int32), VX12_unlike_L2 K n2 σ l1 l2 l3 → YY p l e (yRm 7) s m [.ref (w.1 0), .int a1, .int a2].toArray below meth c w mcf 20 A (MQ below (yQi w mcf 20 K A) [.ref (w.1 0), .int a1, .int a2].toArray s 0 0 A) 4 σ 2 [(0, .ref (w.1 0)), (1, .int l1), (2, .int l2), (3, .int l3)] [] := by
    intro n2
    induction n2 with
    | zero => exact fun _ _ _ _ hv => (by unfold VX12_unlike_L2 at hv; exact hv.elim)
    | succ n2 ih2 =>
      intro σ l1 l2 l3 hv
      unfold VX12_unlike_L2 at hv
      refine y_iload_n E dX12_unlike_2 3 rfl ?_
      refine y_aload_n E dX12_unlike_3 0 rfl ?_
      refine gf_X12_2 E (by decide) (by decide) wm_489 dX12_unlike_4 ?_
      refine y_icmp_ge (tgt := 38) E dX12_unlike_7 (by decide) (fun c1 => ?_) (fun c1 => ?_)
      · replace hv := ite_t hv c1
        refine y_iconst (v := (-1)) E dX12_unlike_38 (by decide) ?_
        exact y_iret E dX12_unlike_39 hv
      · replace hv := ite_f hv c1
        refine y_aload_n E dX12_unlike_10 0 rfl ?_
        refine gf_X12_19 E (by decide) (by decide) wm_658 dX12_unlike_11 ?_
        refine y_bipush (v := 40) E dX12_unlike_14 (by decide) ?_
        refine y_iload_n E dX12_unlike_16 1 rfl ?_
        refine y_imul E dX12_unlike_17 ?_
        refine y_iload_n E dX12_unlike_18 3 rfl ?_
        refine y_iadd E dX12_unlike_19 ?_
        obtain ⟨hi, hv⟩ := hv
        refine y_iald E (Nat.lt_of_lt_of_le (show 12 < 13 by decide) (by decide)) (mc_m_cells (by decide) (by decide)) hi dX12_unlike_20 ?_
        refine y_aload_n E dX12_unlike_21 0 rfl ?_
        refine y_iload_n E dX12_unlike_22 3 rfl ?_
        refine y_iload_n E dX12_unlike_23 2 rfl ?_
        refine y_calli E (y_runV E (rest := [.int (σ 12 ((40 * l1) + l3).toNatClampNeg)]) (kX12_cellBehind l w E.2.2.1 σ l3 l2 _ hv) (y_cwV 2 E.1.2.2.2.2 wm_607 wm_608 wm_609 wm_479 wm_610 (by decide +kernel) (yRm_le (by decide) (by decide))) (Nat.lt_of_lt_of_le (show 0 < 1 by decide) (by decide)) (mc_X12 (by decide) (by decide)) rfl rfl rfl (Nat.le_of_ble_eq_true rfl) dX12_unlike_24) (fun v2 u3 hk => ?_)
        clear hv
        have hv := hk
        clear hk
        refine y_icmp_eq (tgt := 32) E dX12_unlike_27 (by decide) (fun c4 => ?_) (fun c4 => ?_)
        · replace hv := ite_t hv c4
          obtain ⟨x5, hx5⟩ : ∃ z : Int32, z = l3 + 1 := ⟨_, rfl⟩
          replace hv := hv x5 hx5
          refine y_iinc (v := x5) (lv' := [(3, .int x5), (0, .ref (w.1 0)), (1, .int l1), (2, .int l2)]) E dX12_unlike_32 3 rfl (by rw [hx5]; rfl) (by decide) rfl ?_
          refine y_goto (tgt := 2) E dX12_unlike_35 (by decide) ?_
          refine y_lv (lv' := [(0, .ref (w.1 0)), (1, .int l1), (2, .int l2), (3, .int x5)]) [1, 2, 3, 0] rfl ?_
          exact ih2 u3 l1 l2 x5 hv
        · replace hv := ite_f hv c4
          refine y_iload_n E dX12_unlike_30 3 rfl ?_
          exact y_iret E dX12_unlike_31 hv
  refine y_iconst (v := 0) E dX12_unlike_0 (by decide) ?_
  refine y_istore_n (lv' := [(3, .int 0), (0, .ref (w.1 0)), (1, .int a1), (2, .int a2)]) E dX12_unlike_1 (by decide) rfl ?_
  refine y_lv (lv' := [(0, .ref (w.1 0)), (1, .int a1), (2, .int a2), (3, .int 0)]) [1, 2, 3, 0] rfl ?_
  obtain ⟨n0, hv⟩ := hv
  exact hL2 n0 σ a1 a2 0 hv
theorem dX12_judge_0 : decode cX12_judge 0 = .ok (.aload_n 0, 1) := by decide +kernel
theorem dX12_judge_1 : decode cX12_judge 1 = .ok (.iload_n 1, 1) := by decide +kernel
theorem dX12_judge_2 : decode cX12_judge 2 = .ok (.iload_n 2, 1) := by decide +kernel
theorem dX12_judge_3 : decode cX12_judge 3 = .ok (.invokevirtual 247, 3) := by decide +kernel
theorem dX12_judge_6 : decode cX12_judge 6 = .ok (.istore_n 3, 1) := by decide +kernel
theorem dX12_judge_7 : decode cX12_judge 7 = .ok (.iload_n 3, 1) := by decide +kernel
theorem dX12_judge_8 : decode cX12_judge 8 = .ok (.ifCond .ne 12, 3) := by decide +kernel
theorem dX12_judge_11 : decode cX12_judge 11 = .ok (.aload_n 0, 1) := by decide +kernel
theorem dX12_judge_12 : decode cX12_judge 12 = .ok (.iload_n 1, 1) := by decide +kernel
theorem dX12_judge_13 : decode cX12_judge 13 = .ok (.iload_n 2, 1) := by decide +kernel
theorem dX12_judge_14 : decode cX12_judge 14 = .ok (.invokevirtual 250, 3) := by decide +kernel
theorem dX12_judge_17 : decode cX12_judge 17 = .ok (.goto 4, 3) := by decide +kernel
theorem dX12_judge_20 : decode cX12_judge 20 = .ok (.iload_n 3, 1) := by decide +kernel
theorem dX12_judge_21 : decode cX12_judge 21 = .ok (.ireturn, 1) := by decide +kernel
set_option maxRecDepth 100000 in
set_option maxHeartbeats 4000000 in
theorem kX12_judge (l : Launch) (w : wT) (hw : yOk w 20) (σ : Hp) (a1 : Int32) (a2 : Int32) (K : Int32 → Hp → Prop) (hv : VX12_judge K σ a1 a2) : yMet l w mcf 20 yX12_judge cX12_judge 4 (some .int) 8 [.ref (w.1 0), .int a1, .int a2] σ (yQi w mcf 20 K) := by
  unfold VX12_judge at hv
  refine y_start (lv0 := [(0, .ref (w.1 0)), (1, .int a1), (2, .int a2)]) (by decide +kernel) (own := RX12) rfl hw (Nat.le_of_ble_eq_true rfl) rfl (fun p e s m below meth c A E => ?_)
  refine y_aload_n E dX12_judge_0 0 rfl ?_
  refine y_iload_n E dX12_judge_1 1 rfl ?_
  refine y_iload_n E dX12_judge_2 2 rfl ?_
  refine y_calli E (y_runV E (rest := []) (kX12_toldWrong l w E.2.2.1 σ a1 a2 _ hv) (y_cwV 2 E.1.2.2.2.2 wm_659 wm_664 wm_665 wm_479 wm_666 (by decide +kernel) (yRm_le (by decide) (by decide))) (Nat.lt_of_lt_of_le (show 0 < 1 by decide) (by decide)) (mc_X12 (by decide) (by decide)) rfl rfl rfl (Nat.le_of_ble_eq_true rfl) dX12_judge_3) (fun v1 u2 hk => ?_)
  clear hv
  have hv := hk
  clear hk
  refine y_istore_n (lv' := [(3, .int v1), (0, .ref (w.1 0)), (1, .int a1), (2, .int a2)]) E dX12_judge_6 (by decide) rfl ?_
  refine y_iload_n E dX12_judge_7 0 rfl ?_
  refine y_if_ne (tgt := 20) E dX12_judge_8 (by decide) (fun c3 => ?_) (fun c3 => ?_)
  · replace hv := ite_f hv c3
    refine y_iload_n E dX12_judge_20 0 rfl ?_
    exact y_iret E dX12_judge_21 hv
  · replace hv := ite_t hv c3
    refine y_aload_n E dX12_judge_11 1 rfl ?_
    refine y_iload_n E dX12_judge_12 2 rfl ?_
    refine y_iload_n E dX12_judge_13 3 rfl ?_
    refine y_calli E (y_runV E (rest := []) (kX12_unlike l w E.2.2.1 u2 a1 a2 _ hv) (y_cwV 2 E.1.2.2.2.2 wm_660 wm_661 wm_662 wm_479 wm_663 (by decide +kernel) (yRm_le (by decide) (by decide))) (Nat.lt_of_lt_of_le (show 0 < 1 by decide) (by decide)) (mc_X12 (by decide) (by decide)) rfl rfl rfl (Nat.le_of_ble_eq_true rfl) dX12_judge_14) (fun v4 u5 hk => ?_)
    clear hv
    have hv := hk
    clear hk
    refine y_goto (tgt := 21) E dX12_judge_17 (by decide) ?_
    exact y_iret E dX12_judge_21 hv
theorem dX12_times_0 : decode cX12_times 0 = .ok (.aload_n 0, 1) := by decide +kernel
theorem dX12_times_1 : decode cX12_times 1 = .ok (.iload_n 1, 1) := by decide +kernel
theorem dX12_times_2 : decode cX12_times 2 = .ok (.invokevirtual 244, 3) := by decide +kernel
theorem dX12_times_5 : decode cX12_times 5 = .ok (.ifCond .eq 7, 3) := by decide +kernel
theorem dX12_times_8 : decode cX12_times 8 = .ok (.ldc2_w 233, 3) := by decide +kernel
theorem dX12_times_11 : decode cX12_times 11 = .ok (.lreturn, 1) := by decide +kernel
theorem dX12_times_12 : decode cX12_times 12 = .ok (.lconst 0, 1) := by decide +kernel
theorem dX12_times_13 : decode cX12_times 13 = .ok (.lstore_n 2, 1) := by decide +kernel
theorem dX12_times_14 : decode cX12_times 14 = .ok (.iconst 0, 1) := by decide +kernel
theorem dX12_times_15 : decode cX12_times 15 = .ok (.istore 4, 2) := by decide +kernel
theorem dX12_times_17 : decode cX12_times 17 = .ok (.iload 4, 2) := by decide +kernel
theorem dX12_times_19 : decode cX12_times 19 = .ok (.bipush 40, 2) := by decide +kernel
theorem dX12_times_21 : decode cX12_times 21 = .ok (.if_icmp .gt 31, 3) := by decide +kernel
theorem dX12_times_24 : decode cX12_times 24 = .ok (.lload_n 2, 1) := by decide +kernel
theorem dX12_times_25 : decode cX12_times 25 = .ok (.aload_n 0, 1) := by decide +kernel
theorem dX12_times_26 : decode cX12_times 26 = .ok (.iload_n 1, 1) := by decide +kernel
theorem dX12_times_27 : decode cX12_times 27 = .ok (.iload 4, 2) := by decide +kernel
theorem dX12_times_29 : decode cX12_times 29 = .ok (.invokevirtual 250, 3) := by decide +kernel
theorem dX12_times_32 : decode cX12_times 32 = .ok (.iconst (-1), 1) := by decide +kernel
theorem dX12_times_33 : decode cX12_times 33 = .ok (.if_icmp .ne 10, 3) := by decide +kernel
theorem dX12_times_36 : decode cX12_times 36 = .ok (.lconst 1, 1) := by decide +kernel
theorem dX12_times_37 : decode cX12_times 37 = .ok (.iload 4, 2) := by decide +kernel
theorem dX12_times_39 : decode cX12_times 39 = .ok (.lshl, 1) := by decide +kernel
theorem dX12_times_40 : decode cX12_times 40 = .ok (.goto 4, 3) := by decide +kernel
theorem dX12_times_43 : decode cX12_times 43 = .ok (.lconst 0, 1) := by decide +kernel
theorem dX12_times_44 : decode cX12_times 44 = .ok (.lor, 1) := by decide +kernel
theorem dX12_times_45 : decode cX12_times 45 = .ok (.lstore_n 2, 1) := by decide +kernel
theorem dX12_times_46 : decode cX12_times 46 = .ok (.iinc 4 1, 3) := by decide +kernel
theorem dX12_times_49 : decode cX12_times 49 = .ok (.goto (-32), 3) := by decide +kernel
theorem dX12_times_52 : decode cX12_times 52 = .ok (.lload_n 2, 1) := by decide +kernel
theorem dX12_times_53 : decode cX12_times 53 = .ok (.lreturn, 1) := by decide +kernel
set_option maxRecDepth 100000 in
set_option maxHeartbeats 4000000 in
theorem kX12_times (l : Launch) (w : wT) (hw : yOk w 20) (σ : Hp) (a1 : Int32) (K : Int64 → Hp → Prop) (hv : VX12_times K σ a1) : yMet l w mcf 20 yX12_times cX12_times 5 (some .long) 8 [.ref (w.1 0), .int a1] σ (yQl w mcf 20 K) := by
  unfold VX12_times at hv
  refine y_start (lv0 := [(0, .ref (w.1 0)), (1, .int a1)]) (by decide +kernel) (own := RX12) rfl hw (Nat.le_of_ble_eq_true rfl) rfl (fun p e s m below meth c A E => ?_)
  have hL17 : ∀ (n17 : Nat) (σ : Hp) (l1 : Int32) (l2 : Int64) (l4 : Int32), VX12_times_L17 K n17 σ l1 l2 l4 → YY p l e (yRm 8) s m [.ref (w.1 0), .int a1].toArray below meth c w mcf 20 A (MQ below (yQl w mcf 20 K A) [.ref (w.1 0), .int a1].toArray s 0 0 A) 5 σ 17 [(0, .ref (w.1 0)), (1, .int l1), (2, .long l2), (4, .int l4)] [] := by
    intro n17
    induction n17 with
    | zero => exact fun _ _ _ _ hv => (by unfold VX12_times_L17 at hv; exact hv.elim)
    | succ n17 ih17 =>
      intro σ l1 l2 l4 hv
      unfold VX12_times_L17 at hv
      refine y_iload E dX12_times_17 3 rfl ?_
      refine y_bipush (v := 40) E dX12_times_19 (by decide) ?_
      refine y_icmp_gt (tgt := 52) E dX12_times_21 (by decide) (fun c4 => ?_) (fun c4 => ?_)
      · replace hv := ite_t hv c4
        refine y_lload_n E dX12_times_52 2 rfl ?_
        exact y_lret E dX12_times_53 hv
      · replace hv := ite_f hv c4
        refine y_lload_n E dX12_times_24 2 rfl ?_
        refine y_aload_n E dX12_times_25 0 rfl ?_
        refine y_iload_n E dX12_times_26 1 rfl ?_
        refine y_iload E dX12_times_27 3 rfl ?_
        refine y_calli E (y_runV E (rest := [.long l2]) (kX12_unlike l w E.2.2.1 σ l1 l4 _ hv) (y_cwV 2 E.1.2.2.2.2 wm_660 wm_661 wm_662 wm_479 wm_663 (by decide +kernel) (yRm_le (by decide) (by decide))) (Nat.lt_of_lt_of_le (show 0 < 1 by decide) (by decide)) (mc_X12 (by decide) (by decide)) rfl rfl rfl (Nat.le_of_ble_eq_true rfl) dX12_times_29) (fun v5 u6 hk => ?_)
        clear hv
        have hv := hk
        clear hk
        refine y_iconst (v := (-1)) E dX12_times_32 (by decide) ?_
        refine y_icmp_ne (tgt := 43) E dX12_times_33 (by decide) (fun c7 => ?_) (fun c7 => ?_)
        · replace hv := ite_f hv c7
          refine y_lconst (v := 0) E dX12_times_43 (by decide) ?_
          refine y_lor E dX12_times_44 ?_
          refine y_nml (fun x8 hx8 => ?_)
          replace hv := hv x8 hx8
          refine y_lstore_n (lv' := [(2, .long x8), (0, .ref (w.1 0)), (1, .int l1), (4, .int l4)]) E dX12_times_45 (by decide) rfl ?_
          obtain ⟨x9, hx9⟩ : ∃ z : Int32, z = l4 + 1 := ⟨_, rfl⟩
          replace hv := hv x9 hx9
          refine y_iinc (v := x9) (lv' := [(4, .int x9), (2, .long x8), (0, .ref (w.1 0)), (1, .int l1)]) E dX12_times_46 3 rfl (by rw [hx9]; rfl) (by decide) rfl ?_
          refine y_goto (tgt := 17) E dX12_times_49 (by decide) ?_
          refine y_lv (lv' := [(0, .ref (w.1 0)), (1, .int l1), (2, .long x8), (4, .int x9)]) [2, 3, 1, 0] rfl ?_
          exact ih17 u6 l1 x8 x9 hv
        · replace hv := ite_t hv c7
          refine y_lconst (v := 1) E dX12_times_36 (by decide) ?_
          refine y_iload E dX12_times_37 3 rfl ?_
          refine y_lshl E dX12_times_39 ?_
          refine y_goto (tgt := 44) E dX12_times_40 (by decide) ?_
          refine y_lor E dX12_times_44 ?_
          refine y_nml (fun x10 hx10 => ?_)
          replace hv := hv x10 hx10
          refine y_lstore_n (lv' := [(2, .long x10), (0, .ref (w.1 0)), (1, .int l1), (4, .int l4)]) E dX12_times_45 (by decide) rfl ?_
          obtain ⟨x11, hx11⟩ : ∃ z : Int32, z = l4 + 1 := ⟨_, rfl⟩
          replace hv := hv x11 hx11
          refine y_iinc (v := x11) (lv' := [(4, .int x11), (2, .long x10), (0, .ref (w.1 0)), (1, .int l1)]) E dX12_times_46 3 rfl (by rw [hx11]; rfl) (by decide) rfl ?_
          refine y_goto (tgt := 17) E dX12_times_49 (by decide) ?_
          refine y_lv (lv' := [(0, .ref (w.1 0)), (1, .int l1), (2, .long x10), (4, .int x11)]) [2, 3, 1, 0] rfl ?_
          exact ih17 u6 l1 x10 x11 hv
  refine y_aload_n E dX12_times_0 0 rfl ?_
  refine y_iload_n E dX12_times_1 1 rfl ?_
  refine y_calli E (y_runV E (rest := []) (kX12_sheetWrong l w E.2.2.1 σ a1 _ hv) (y_cwV 1 E.1.2.2.2.2 wm_654 wm_655 wm_656 wm_479 wm_657 (by decide +kernel) (yRm_le (by decide) (by decide))) (Nat.lt_of_lt_of_le (show 0 < 1 by decide) (by decide)) (mc_X12 (by decide) (by decide)) rfl rfl rfl (Nat.le_of_ble_eq_true rfl) dX12_times_2) (fun v1 u2 hk => ?_)
  clear hv
  have hv := hk
  clear hk
  refine y_if_eq (tgt := 12) E dX12_times_5 (by decide) (fun c3 => ?_) (fun c3 => ?_)
  · replace hv := ite_t hv c3
    refine y_lconst (v := 0) E dX12_times_12 (by decide) ?_
    refine y_lstore_n (lv' := [(2, .long 0), (0, .ref (w.1 0)), (1, .int a1)]) E dX12_times_13 (by decide) rfl ?_
    refine y_iconst (v := 0) E dX12_times_14 (by decide) ?_
    refine y_istore (lv' := [(4, .int 0), (2, .long 0), (0, .ref (w.1 0)), (1, .int a1)]) E dX12_times_15 (by decide) rfl ?_
    refine y_lv (lv' := [(0, .ref (w.1 0)), (1, .int a1), (2, .long 0), (4, .int 0)]) [2, 3, 1, 0] rfl ?_
    obtain ⟨n0, hv⟩ := hv
    exact hL17 n0 u2 a1 0 0 hv
  · replace hv := ite_f hv c3
    refine y_ldc2 (v := (-4611686018427387904)) E wm_643 dX12_times_8 ?_
    exact y_lret E dX12_times_11 hv
theorem dX12_laws_0 : decode cX12_laws 0 = .ok (.aload_n 0, 1) := by decide +kernel
theorem dX12_laws_1 : decode cX12_laws 1 = .ok (.iload_n 1, 1) := by decide +kernel
theorem dX12_laws_2 : decode cX12_laws 2 = .ok (.iload_n 2, 1) := by decide +kernel
theorem dX12_laws_3 : decode cX12_laws 3 = .ok (.invokevirtual 247, 3) := by decide +kernel
theorem dX12_laws_6 : decode cX12_laws 6 = .ok (.istore_n 3, 1) := by decide +kernel
theorem dX12_laws_7 : decode cX12_laws 7 = .ok (.iload_n 3, 1) := by decide +kernel
theorem dX12_laws_8 : decode cX12_laws 8 = .ok (.ifCond .eq 5, 3) := by decide +kernel
theorem dX12_laws_11 : decode cX12_laws 11 = .ok (.iload_n 3, 1) := by decide +kernel
theorem dX12_laws_12 : decode cX12_laws 12 = .ok (.ireturn, 1) := by decide +kernel
theorem dX12_laws_13 : decode cX12_laws 13 = .ok (.aload_n 0, 1) := by decide +kernel
theorem dX12_laws_14 : decode cX12_laws 14 = .ok (.getfield 99, 3) := by decide +kernel
theorem dX12_laws_17 : decode cX12_laws 17 = .ok (.istore 4, 2) := by decide +kernel
theorem dX12_laws_19 : decode cX12_laws 19 = .ok (.iconst 0, 1) := by decide +kernel
theorem dX12_laws_20 : decode cX12_laws 20 = .ok (.istore 5, 2) := by decide +kernel
theorem dX12_laws_22 : decode cX12_laws 22 = .ok (.iconst 0, 1) := by decide +kernel
theorem dX12_laws_23 : decode cX12_laws 23 = .ok (.istore 6, 2) := by decide +kernel
theorem dX12_laws_25 : decode cX12_laws 25 = .ok (.iload 6, 2) := by decide +kernel
theorem dX12_laws_27 : decode cX12_laws 27 = .ok (.aload_n 0, 1) := by decide +kernel
theorem dX12_laws_28 : decode cX12_laws 28 = .ok (.getfield 96, 3) := by decide +kernel
theorem dX12_laws_31 : decode cX12_laws 31 = .ok (.if_icmp .ge 38, 3) := by decide +kernel
theorem dX12_laws_34 : decode cX12_laws 34 = .ok (.aload_n 0, 1) := by decide +kernel
theorem dX12_laws_35 : decode cX12_laws 35 = .ok (.iload 6, 2) := by decide +kernel
theorem dX12_laws_37 : decode cX12_laws 37 = .ok (.putfield 99, 3) := by decide +kernel
theorem dX12_laws_40 : decode cX12_laws 40 = .ok (.iload 5, 2) := by decide +kernel
theorem dX12_laws_42 : decode cX12_laws 42 = .ok (.aload_n 0, 1) := by decide +kernel
theorem dX12_laws_43 : decode cX12_laws 43 = .ok (.iload_n 1, 1) := by decide +kernel
theorem dX12_laws_44 : decode cX12_laws 44 = .ok (.iload_n 2, 1) := by decide +kernel
theorem dX12_laws_45 : decode cX12_laws 45 = .ok (.invokevirtual 250, 3) := by decide +kernel
theorem dX12_laws_48 : decode cX12_laws 48 = .ok (.iconst (-1), 1) := by decide +kernel
theorem dX12_laws_49 : decode cX12_laws 49 = .ok (.if_icmp .ne 10, 3) := by decide +kernel
theorem dX12_laws_52 : decode cX12_laws 52 = .ok (.iconst 1, 1) := by decide +kernel
theorem dX12_laws_53 : decode cX12_laws 53 = .ok (.iload 6, 2) := by decide +kernel
theorem dX12_laws_55 : decode cX12_laws 55 = .ok (.ishl, 1) := by decide +kernel
theorem dX12_laws_56 : decode cX12_laws 56 = .ok (.goto 4, 3) := by decide +kernel
theorem dX12_laws_59 : decode cX12_laws 59 = .ok (.iconst 0, 1) := by decide +kernel
theorem dX12_laws_60 : decode cX12_laws 60 = .ok (.ior, 1) := by decide +kernel
theorem dX12_laws_61 : decode cX12_laws 61 = .ok (.istore 5, 2) := by decide +kernel
theorem dX12_laws_63 : decode cX12_laws 63 = .ok (.iinc 6 1, 3) := by decide +kernel
theorem dX12_laws_66 : decode cX12_laws 66 = .ok (.goto (-41), 3) := by decide +kernel
theorem dX12_laws_69 : decode cX12_laws 69 = .ok (.aload_n 0, 1) := by decide +kernel
theorem dX12_laws_70 : decode cX12_laws 70 = .ok (.iload 4, 2) := by decide +kernel
theorem dX12_laws_72 : decode cX12_laws 72 = .ok (.putfield 99, 3) := by decide +kernel
theorem dX12_laws_75 : decode cX12_laws 75 = .ok (.iload 5, 2) := by decide +kernel
theorem dX12_laws_77 : decode cX12_laws 77 = .ok (.ireturn, 1) := by decide +kernel
set_option maxRecDepth 100000 in
set_option maxHeartbeats 4000000 in
theorem kX12_laws (l : Launch) (w : wT) (hw : yOk w 20) (σ : Hp) (a1 : Int32) (a2 : Int32) (K : Int32 → Hp → Prop) (hv : VX12_laws K σ a1 a2) : yMet l w mcf 20 yX12_laws cX12_laws 7 (some .int) 8 [.ref (w.1 0), .int a1, .int a2] σ (yQi w mcf 20 K) := by
  unfold VX12_laws at hv
  refine y_start (lv0 := [(0, .ref (w.1 0)), (1, .int a1), (2, .int a2)]) (by decide +kernel) (own := RX12) rfl hw (Nat.le_of_ble_eq_true rfl) rfl (fun p e s m below meth c A E => ?_)
  have hL25 : ∀ (n25 : Nat) (σ : Hp) (l1 : Int32) (l2 : Int32) (l4 : Int32) (l5 : Int32) (l6 : Int32), VX12_laws_L25 K n25 σ l1 l2 l4 l5 l6 → YY p l e (yRm 8) s m [.ref (w.1 0), .int a1, .int a2].toArray below meth c w mcf 20 A (MQ below (yQi w mcf 20 K A) [.ref (w.1 0), .int a1, .int a2].toArray s 0 0 A) 7 σ 25 [(0, .ref (w.1 0)), (1, .int l1), (2, .int l2), (4, .int l4), (5, .int l5), (6, .int l6)] [] := by
    intro n25
    induction n25 with
    | zero => exact fun _ _ _ _ _ _ hv => (by unfold VX12_laws_L25 at hv; exact hv.elim)
    | succ n25 ih25 =>
      intro σ l1 l2 l4 l5 l6 hv
      unfold VX12_laws_L25 at hv
      refine y_iload E dX12_laws_25 5 rfl ?_
      refine y_aload_n E dX12_laws_27 0 rfl ?_
      refine gf_X12_11 E (by decide) (by decide) wm_496 dX12_laws_28 ?_
      refine y_icmp_ge (tgt := 69) E dX12_laws_31 (by decide) (fun c5 => ?_) (fun c5 => ?_)
      · replace hv := ite_t hv c5
        refine y_aload_n E dX12_laws_69 0 rfl ?_
        refine y_iload E dX12_laws_70 3 rfl ?_
        refine pf_X12_12 E (by decide) (by decide) wm_497 dX12_laws_72 ?_
        refine y_nmH (fun u6 hu6 => ?_)
        replace hv := hv u6 hu6
        refine y_iload E dX12_laws_75 4 rfl ?_
        exact y_iret E dX12_laws_77 hv
      · replace hv := ite_f hv c5
        refine y_aload_n E dX12_laws_34 0 rfl ?_
        refine y_iload E dX12_laws_35 5 rfl ?_
        refine pf_X12_12 E (by decide) (by decide) wm_497 dX12_laws_37 ?_
        refine y_nmH (fun u7 hu7 => ?_)
        replace hv := hv u7 hu7
        refine y_iload E dX12_laws_40 4 rfl ?_
        refine y_aload_n E dX12_laws_42 0 rfl ?_
        refine y_iload_n E dX12_laws_43 1 rfl ?_
        refine y_iload_n E dX12_laws_44 2 rfl ?_
        refine y_calli E (y_runV E (rest := [.int l5]) (kX12_unlike l w E.2.2.1 u7 l1 l2 _ hv) (y_cwV 2 E.1.2.2.2.2 wm_660 wm_661 wm_662 wm_479 wm_663 (by decide +kernel) (yRm_le (by decide) (by decide))) (Nat.lt_of_lt_of_le (show 0 < 1 by decide) (by decide)) (mc_X12 (by decide) (by decide)) rfl rfl rfl (Nat.le_of_ble_eq_true rfl) dX12_laws_45) (fun v8 u9 hk => ?_)
        clear hv
        have hv := hk
        clear hk
        refine y_iconst (v := (-1)) E dX12_laws_48 (by decide) ?_
        refine y_icmp_ne (tgt := 59) E dX12_laws_49 (by decide) (fun c10 => ?_) (fun c10 => ?_)
        · replace hv := ite_f hv c10
          refine y_iconst (v := 0) E dX12_laws_59 (by decide) ?_
          refine y_ior E dX12_laws_60 ?_
          refine y_nmi (fun x11 hx11 => ?_)
          replace hv := hv x11 hx11
          refine y_istore (lv' := [(5, .int x11), (0, .ref (w.1 0)), (1, .int l1), (2, .int l2), (4, .int l4), (6, .int l6)]) E dX12_laws_61 (by decide) rfl ?_
          obtain ⟨x12, hx12⟩ : ∃ z : Int32, z = l6 + 1 := ⟨_, rfl⟩
          replace hv := hv x12 hx12
          refine y_iinc (v := x12) (lv' := [(6, .int x12), (5, .int x11), (0, .ref (w.1 0)), (1, .int l1), (2, .int l2), (4, .int l4)]) E dX12_laws_63 5 rfl (by rw [hx12]; rfl) (by decide) rfl ?_
          refine y_goto (tgt := 25) E dX12_laws_66 (by decide) ?_
          refine y_lv (lv' := [(0, .ref (w.1 0)), (1, .int l1), (2, .int l2), (4, .int l4), (5, .int x11), (6, .int x12)]) [2, 3, 4, 5, 1, 0] rfl ?_
          exact ih25 u9 l1 l2 l4 x11 x12 hv
        · replace hv := ite_t hv c10
          refine y_iconst (v := 1) E dX12_laws_52 (by decide) ?_
          refine y_iload E dX12_laws_53 5 rfl ?_
          refine y_ishl E dX12_laws_55 ?_
          refine y_goto (tgt := 60) E dX12_laws_56 (by decide) ?_
          refine y_ior E dX12_laws_60 ?_
          refine y_nmi (fun x13 hx13 => ?_)
          replace hv := hv x13 hx13
          refine y_istore (lv' := [(5, .int x13), (0, .ref (w.1 0)), (1, .int l1), (2, .int l2), (4, .int l4), (6, .int l6)]) E dX12_laws_61 (by decide) rfl ?_
          obtain ⟨x14, hx14⟩ : ∃ z : Int32, z = l6 + 1 := ⟨_, rfl⟩
          replace hv := hv x14 hx14
          refine y_iinc (v := x14) (lv' := [(6, .int x14), (5, .int x13), (0, .ref (w.1 0)), (1, .int l1), (2, .int l2), (4, .int l4)]) E dX12_laws_63 5 rfl (by rw [hx14]; rfl) (by decide) rfl ?_
          refine y_goto (tgt := 25) E dX12_laws_66 (by decide) ?_
          refine y_lv (lv' := [(0, .ref (w.1 0)), (1, .int l1), (2, .int l2), (4, .int l4), (5, .int x13), (6, .int x14)]) [2, 3, 4, 5, 1, 0] rfl ?_
          exact ih25 u9 l1 l2 l4 x13 x14 hv
  refine y_aload_n E dX12_laws_0 0 rfl ?_
  refine y_iload_n E dX12_laws_1 1 rfl ?_
  refine y_iload_n E dX12_laws_2 2 rfl ?_
  refine y_calli E (y_runV E (rest := []) (kX12_toldWrong l w E.2.2.1 σ a1 a2 _ hv) (y_cwV 2 E.1.2.2.2.2 wm_659 wm_664 wm_665 wm_479 wm_666 (by decide +kernel) (yRm_le (by decide) (by decide))) (Nat.lt_of_lt_of_le (show 0 < 1 by decide) (by decide)) (mc_X12 (by decide) (by decide)) rfl rfl rfl (Nat.le_of_ble_eq_true rfl) dX12_laws_3) (fun v1 u2 hk => ?_)
  clear hv
  have hv := hk
  clear hk
  refine y_istore_n (lv' := [(3, .int v1), (0, .ref (w.1 0)), (1, .int a1), (2, .int a2)]) E dX12_laws_6 (by decide) rfl ?_
  refine y_iload_n E dX12_laws_7 0 rfl ?_
  refine y_if_eq (tgt := 13) E dX12_laws_8 (by decide) (fun c3 => ?_) (fun c3 => ?_)
  · replace hv := ite_t hv c3
    refine y_aload_n E dX12_laws_13 1 rfl ?_
    refine gf_X12_12 E (by decide) (by decide) wm_497 dX12_laws_14 ?_
    refine y_nmi (fun x4 hx4 => ?_)
    replace hv := hv x4 hx4
    refine y_istore (lv' := [(4, .int x4), (3, .int v1), (0, .ref (w.1 0)), (1, .int a1), (2, .int a2)]) E dX12_laws_17 (by decide) rfl ?_
    refine y_iconst (v := 0) E dX12_laws_19 (by decide) ?_
    refine y_istore (lv' := [(5, .int 0), (4, .int x4), (3, .int v1), (0, .ref (w.1 0)), (1, .int a1), (2, .int a2)]) E dX12_laws_20 (by decide) rfl ?_
    refine y_iconst (v := 0) E dX12_laws_22 (by decide) ?_
    refine y_istore (lv' := [(6, .int 0), (5, .int 0), (4, .int x4), (3, .int v1), (0, .ref (w.1 0)), (1, .int a1), (2, .int a2)]) E dX12_laws_23 (by decide) rfl ?_
    refine y_lv (lv' := [(0, .ref (w.1 0)), (1, .int a1), (2, .int a2), (4, .int x4), (5, .int 0), (6, .int 0)]) [4, 5, 6, 2, 1, 0] rfl ?_
    obtain ⟨n0, hv⟩ := hv
    exact hL25 n0 u2 a1 a2 x4 0 0 hv
  · replace hv := ite_f hv c3
    refine y_iload_n E dX12_laws_11 0 rfl ?_
    exact y_iret E dX12_laws_12 hv
theorem dX12_film_0 : decode cX12_film 0 = .ok (.iload_n 1, 1) := by decide +kernel
theorem dX12_film_1 : decode cX12_film 1 = .ok (.iconst 0, 1) := by decide +kernel
theorem dX12_film_2 : decode cX12_film 2 = .ok (.iconst 3, 1) := by decide +kernel
theorem dX12_film_3 : decode cX12_film 3 = .ok (.invokestatic 75, 3) := by decide +kernel
theorem dX12_film_6 : decode cX12_film 6 = .ok (.ifCond .ne 6, 3) := by decide +kernel
theorem dX12_film_9 : decode cX12_film 9 = .ok (.bipush (-2), 2) := by decide +kernel
theorem dX12_film_11 : decode cX12_film 11 = .ok (.ireturn, 1) := by decide +kernel
theorem dX12_film_12 : decode cX12_film 12 = .ok (.iload_n 2, 1) := by decide +kernel
theorem dX12_film_13 : decode cX12_film 13 = .ok (.invokestatic 206, 3) := by decide +kernel
theorem dX12_film_16 : decode cX12_film 16 = .ok (.ifCond .ne 6, 3) := by decide +kernel
theorem dX12_film_19 : decode cX12_film 19 = .ok (.bipush (-7), 2) := by decide +kernel
theorem dX12_film_21 : decode cX12_film 21 = .ok (.ireturn, 1) := by decide +kernel
theorem dX12_film_22 : decode cX12_film 22 = .ok (.aload_n 0, 1) := by decide +kernel
theorem dX12_film_23 : decode cX12_film 23 = .ok (.getfield 37, 3) := by decide +kernel
theorem dX12_film_26 : decode cX12_film 26 = .ok (.iload_n 1, 1) := by decide +kernel
theorem dX12_film_27 : decode cX12_film 27 = .ok (.iconst 2, 1) := by decide +kernel
theorem dX12_film_28 : decode cX12_film 28 = .ok (.iastore, 1) := by decide +kernel
theorem dX12_film_29 : decode cX12_film 29 = .ok (.aload_n 0, 1) := by decide +kernel
theorem dX12_film_30 : decode cX12_film 30 = .ok (.getfield 40, 3) := by decide +kernel
theorem dX12_film_33 : decode cX12_film 33 = .ok (.iload_n 1, 1) := by decide +kernel
theorem dX12_film_34 : decode cX12_film 34 = .ok (.aload_n 0, 1) := by decide +kernel
theorem dX12_film_35 : decode cX12_film 35 = .ok (.getfield 87, 3) := by decide +kernel
theorem dX12_film_38 : decode cX12_film 38 = .ok (.iastore, 1) := by decide +kernel
theorem dX12_film_39 : decode cX12_film 39 = .ok (.iconst 0, 1) := by decide +kernel
theorem dX12_film_40 : decode cX12_film 40 = .ok (.istore_n 3, 1) := by decide +kernel
theorem dX12_film_41 : decode cX12_film 41 = .ok (.iload_n 3, 1) := by decide +kernel
theorem dX12_film_42 : decode cX12_film 42 = .ok (.bipush 40, 2) := by decide +kernel
theorem dX12_film_44 : decode cX12_film 44 = .ok (.if_icmp .ge 38, 3) := by decide +kernel
theorem dX12_film_47 : decode cX12_film 47 = .ok (.aload_n 0, 1) := by decide +kernel
theorem dX12_film_48 : decode cX12_film 48 = .ok (.getfield 43, 3) := by decide +kernel
theorem dX12_film_51 : decode cX12_film 51 = .ok (.bipush 40, 2) := by decide +kernel
theorem dX12_film_53 : decode cX12_film 53 = .ok (.iload_n 1, 1) := by decide +kernel
theorem dX12_film_54 : decode cX12_film 54 = .ok (.imul, 1) := by decide +kernel
theorem dX12_film_55 : decode cX12_film 55 = .ok (.iload_n 3, 1) := by decide +kernel
theorem dX12_film_56 : decode cX12_film 56 = .ok (.iadd, 1) := by decide +kernel
theorem dX12_film_57 : decode cX12_film 57 = .ok (.iload_n 3, 1) := by decide +kernel
theorem dX12_film_58 : decode cX12_film 58 = .ok (.aload_n 0, 1) := by decide +kernel
theorem dX12_film_59 : decode cX12_film 59 = .ok (.getfield 87, 3) := by decide +kernel
theorem dX12_film_62 : decode cX12_film 62 = .ok (.if_icmp .ge 12, 3) := by decide +kernel
theorem dX12_film_65 : decode cX12_film 65 = .ok (.aload_n 0, 1) := by decide +kernel
theorem dX12_film_66 : decode cX12_film 66 = .ok (.iload_n 3, 1) := by decide +kernel
theorem dX12_film_67 : decode cX12_film 67 = .ok (.iload_n 2, 1) := by decide +kernel
theorem dX12_film_68 : decode cX12_film 68 = .ok (.invokevirtual 209, 3) := by decide +kernel
theorem dX12_film_71 : decode cX12_film 71 = .ok (.goto 4, 3) := by decide +kernel
theorem dX12_film_74 : decode cX12_film 74 = .ok (.iconst 0, 1) := by decide +kernel
theorem dX12_film_75 : decode cX12_film 75 = .ok (.iastore, 1) := by decide +kernel
theorem dX12_film_76 : decode cX12_film 76 = .ok (.iinc 3 1, 3) := by decide +kernel
theorem dX12_film_79 : decode cX12_film 79 = .ok (.goto (-38), 3) := by decide +kernel
theorem dX12_film_82 : decode cX12_film 82 = .ok (.aload_n 0, 1) := by decide +kernel
theorem dX12_film_83 : decode cX12_film 83 = .ok (.getfield 87, 3) := by decide +kernel
theorem dX12_film_86 : decode cX12_film 86 = .ok (.ireturn, 1) := by decide +kernel
set_option maxRecDepth 100000 in
set_option maxHeartbeats 4000000 in
theorem kX12_film (l : Launch) (w : wT) (hw : yOk w 20) (σ : Hp) (a1 : Int32) (a2 : Int32) (K : Int32 → Hp → Prop) (hv : VX12_film K σ a1 a2) : yMet l w mcf 20 yX12_film cX12_film 4 (some .int) 7 [.ref (w.1 0), .int a1, .int a2] σ (yQi w mcf 20 K) := by
  unfold VX12_film at hv
  refine y_start (lv0 := [(0, .ref (w.1 0)), (1, .int a1), (2, .int a2)]) (by decide +kernel) (own := RX12) rfl hw (Nat.le_of_ble_eq_true rfl) rfl (fun p e s m below meth c A E => ?_)
  have hL41 : ∀ (n41 : Nat) (σ : Hp) (l1 : Int32) (l2 : Int32) (l3 : Int32), VX12_film_L41 K n41 σ l1 l2 l3 → YY p l e (yRm 7) s m [.ref (w.1 0), .int a1, .int a2].toArray below meth c w mcf 20 A (MQ below (yQi w mcf 20 K A) [.ref (w.1 0), .int a1, .int a2].toArray s 0 0 A) 4 σ 41 [(0, .ref (w.1 0)), (1, .int l1), (2, .int l2), (3, .int l3)] [] := by
    intro n41
    induction n41 with
    | zero => exact fun _ _ _ _ hv => (by unfold VX12_film_L41 at hv; exact hv.elim)
    | succ n41 ih41 =>
      intro σ l1 l2 l3 hv
      unfold VX12_film_L41 at hv
      refine y_iload_n E dX12_film_41 3 rfl ?_
      refine y_bipush (v := 40) E dX12_film_42 (by decide) ?_
      refine y_icmp_ge (tgt := 82) E dX12_film_44 (by decide) (fun c9 => ?_) (fun c9 => ?_)
      · replace hv := ite_t hv c9
        refine y_aload_n E dX12_film_82 0 rfl ?_
        refine gf_X12_2 E (by decide) (by decide) wm_489 dX12_film_83 ?_
        exact y_iret E dX12_film_86 hv
      · replace hv := ite_f hv c9
        refine y_aload_n E dX12_film_47 0 rfl ?_
        refine gf_X12_19 E (by decide) (by decide) wm_658 dX12_film_48 ?_
        refine y_bipush (v := 40) E dX12_film_51 (by decide) ?_
        refine y_iload_n E dX12_film_53 1 rfl ?_
        refine y_imul E dX12_film_54 ?_
        refine y_iload_n E dX12_film_55 3 rfl ?_
        refine y_iadd E dX12_film_56 ?_
        refine y_iload_n E dX12_film_57 3 rfl ?_
        refine y_aload_n E dX12_film_58 0 rfl ?_
        refine gf_X12_2 E (by decide) (by decide) wm_489 dX12_film_59 ?_
        refine y_icmp_ge (tgt := 74) E dX12_film_62 (by decide) (fun c10 => ?_) (fun c10 => ?_)
        · replace hv := ite_t hv c10
          refine y_iconst (v := 0) E dX12_film_74 (by decide) ?_
          obtain ⟨hi, hv⟩ := hv
          refine y_iast E (Nat.lt_of_lt_of_le (show 12 < 13 by decide) (by decide)) (fun _ => mc_m_cells (by decide) (by decide)) hi dX12_film_75 ?_
          refine y_nmH (fun u11 hu11 => ?_)
          replace hv := hv u11 hu11
          obtain ⟨x12, hx12⟩ : ∃ z : Int32, z = l3 + 1 := ⟨_, rfl⟩
          replace hv := hv x12 hx12
          refine y_iinc (v := x12) (lv' := [(3, .int x12), (0, .ref (w.1 0)), (1, .int l1), (2, .int l2)]) E dX12_film_76 3 rfl (by rw [hx12]; rfl) (by decide) rfl ?_
          refine y_goto (tgt := 41) E dX12_film_79 (by decide) ?_
          refine y_lv (lv' := [(0, .ref (w.1 0)), (1, .int l1), (2, .int l2), (3, .int x12)]) [1, 2, 3, 0] rfl ?_
          exact ih41 u11 l1 l2 x12 hv
        · replace hv := ite_f hv c10
          refine y_aload_n E dX12_film_65 0 rfl ?_
          refine y_iload_n E dX12_film_66 3 rfl ?_
          refine y_iload_n E dX12_film_67 2 rfl ?_
          refine y_calli E (y_runV E (rest := [.int ((40 * l1) + l3), .ref (w.1 12)]) (kX12_cellBehind l w E.2.2.1 σ l3 l2 _ hv) (y_cwV 2 E.1.2.2.2.2 wm_607 wm_608 wm_609 wm_479 wm_610 (by decide +kernel) (yRm_le (by decide) (by decide))) (Nat.lt_of_lt_of_le (show 0 < 1 by decide) (by decide)) (mc_X12 (by decide) (by decide)) rfl rfl rfl (Nat.le_of_ble_eq_true rfl) dX12_film_68) (fun v13 u14 hk => ?_)
          clear hv
          have hv := hk
          clear hk
          refine y_goto (tgt := 75) E dX12_film_71 (by decide) ?_
          obtain ⟨hi, hv⟩ := hv
          refine y_iast E (Nat.lt_of_lt_of_le (show 12 < 13 by decide) (by decide)) (fun _ => mc_m_cells (by decide) (by decide)) hi dX12_film_75 ?_
          refine y_nmH (fun u15 hu15 => ?_)
          replace hv := hv u15 hu15
          obtain ⟨x16, hx16⟩ : ∃ z : Int32, z = l3 + 1 := ⟨_, rfl⟩
          replace hv := hv x16 hx16
          refine y_iinc (v := x16) (lv' := [(3, .int x16), (0, .ref (w.1 0)), (1, .int l1), (2, .int l2)]) E dX12_film_76 3 rfl (by rw [hx16]; rfl) (by decide) rfl ?_
          refine y_goto (tgt := 41) E dX12_film_79 (by decide) ?_
          refine y_lv (lv' := [(0, .ref (w.1 0)), (1, .int l1), (2, .int l2), (3, .int x16)]) [1, 2, 3, 0] rfl ?_
          exact ih41 u15 l1 l2 x16 hv
  refine y_iload_n E dX12_film_0 1 rfl ?_
  refine y_iconst (v := 0) E dX12_film_1 (by decide) ?_
  refine y_iconst (v := 3) E dX12_film_2 (by decide) ?_
  refine y_calli E (y_runS E (rest := []) (kX12_in l w E.2.2.1 σ a1 0 3 _ hv) (y_cwS 3 E.1.2.2.2.2 wm_477 wm_478 wm_479 wm_480 (by decide +kernel) (yRm_le (by decide) (by decide))) rfl rfl (Nat.le_of_ble_eq_true rfl) dX12_film_3) (fun v1 u2 hk => ?_)
  clear hv
  have hv := hk
  clear hk
  refine y_if_ne (tgt := 12) E dX12_film_6 (by decide) (fun c3 => ?_) (fun c3 => ?_)
  · replace hv := ite_f hv c3
    refine y_iload_n E dX12_film_12 2 rfl ?_
    refine y_calli E (y_runS E (rest := []) (kX12_areSteps l w E.2.2.1 u2 a2 _ hv) (y_cwS 1 E.1.2.2.2.2 wm_606 wm_611 wm_479 wm_612 (by decide +kernel) (yRm_le (by decide) (by decide))) rfl rfl (Nat.le_of_ble_eq_true rfl) dX12_film_13) (fun v4 u5 hk => ?_)
    clear hv
    have hv := hk
    clear hk
    refine y_if_ne (tgt := 22) E dX12_film_16 (by decide) (fun c6 => ?_) (fun c6 => ?_)
    · replace hv := ite_f hv c6
      refine y_aload_n E dX12_film_22 0 rfl ?_
      refine gf_X12_17 E (by decide) (by decide) wm_652 dX12_film_23 ?_
      refine y_iload_n E dX12_film_26 1 rfl ?_
      refine y_iconst (v := 2) E dX12_film_27 (by decide) ?_
      obtain ⟨hi, hv⟩ := hv
      refine y_iast E (Nat.lt_of_lt_of_le (show 10 < 11 by decide) (by decide)) (fun _ => mc_m_sheetSort (by decide) (by decide)) hi dX12_film_28 ?_
      refine y_nmH (fun u7 hu7 => ?_)
      replace hv := hv u7 hu7
      refine y_aload_n E dX12_film_29 0 rfl ?_
      refine gf_X12_18 E (by decide) (by decide) wm_653 dX12_film_30 ?_
      refine y_iload_n E dX12_film_33 1 rfl ?_
      refine y_aload_n E dX12_film_34 0 rfl ?_
      refine gf_X12_2 E (by decide) (by decide) wm_489 dX12_film_35 ?_
      obtain ⟨hi, hv⟩ := hv
      refine y_iast E (Nat.lt_of_lt_of_le (show 11 < 12 by decide) (by decide)) (fun _ => mc_m_sheetSize (by decide) (by decide)) hi dX12_film_38 ?_
      refine y_nmH (fun u8 hu8 => ?_)
      replace hv := hv u8 hu8
      refine y_iconst (v := 0) E dX12_film_39 (by decide) ?_
      refine y_istore_n (lv' := [(3, .int 0), (0, .ref (w.1 0)), (1, .int a1), (2, .int a2)]) E dX12_film_40 (by decide) rfl ?_
      refine y_lv (lv' := [(0, .ref (w.1 0)), (1, .int a1), (2, .int a2), (3, .int 0)]) [1, 2, 3, 0] rfl ?_
      obtain ⟨n0, hv⟩ := hv
      exact hL41 n0 u8 a1 a2 0 hv
    · replace hv := ite_t hv c6
      refine y_bipush (v := (-7)) E dX12_film_19 (by decide) ?_
      exact y_iret E dX12_film_21 hv
  · replace hv := ite_t hv c3
    refine y_bipush (v := (-2)) E dX12_film_9 (by decide) ?_
    exact y_iret E dX12_film_11 hv
theorem dX12_insideBy_0 : decode cX12_insideBy 0 = .ok (.iload_n 1, 1) := by decide +kernel
theorem dX12_insideBy_1 : decode cX12_insideBy 1 = .ok (.i2l, 1) := by decide +kernel
theorem dX12_insideBy_2 : decode cX12_insideBy 2 = .ok (.lconst 1, 1) := by decide +kernel
theorem dX12_insideBy_3 : decode cX12_insideBy 3 = .ok (.ladd, 1) := by decide +kernel
theorem dX12_insideBy_4 : decode cX12_insideBy 4 = .ok (.lstore 4, 2) := by decide +kernel
theorem dX12_insideBy_6 : decode cX12_insideBy 6 = .ok (.iconst 0, 1) := by decide +kernel
theorem dX12_insideBy_7 : decode cX12_insideBy 7 = .ok (.istore 6, 2) := by decide +kernel
theorem dX12_insideBy_9 : decode cX12_insideBy 9 = .ok (.iconst 0, 1) := by decide +kernel
theorem dX12_insideBy_10 : decode cX12_insideBy 10 = .ok (.istore 7, 2) := by decide +kernel
theorem dX12_insideBy_12 : decode cX12_insideBy 12 = .ok (.iload 7, 2) := by decide +kernel
theorem dX12_insideBy_14 : decode cX12_insideBy 14 = .ok (.aload_n 0, 1) := by decide +kernel
theorem dX12_insideBy_15 : decode cX12_insideBy 15 = .ok (.getfield 87, 3) := by decide +kernel
theorem dX12_insideBy_18 : decode cX12_insideBy 18 = .ok (.if_icmp .ge 68, 3) := by decide +kernel
theorem dX12_insideBy_21 : decode cX12_insideBy 21 = .ok (.lload 4, 2) := by decide +kernel
theorem dX12_insideBy_23 : decode cX12_insideBy 23 = .ok (.ldc2_w 253, 3) := by decide +kernel
theorem dX12_insideBy_26 : decode cX12_insideBy 26 = .ok (.lmul, 1) := by decide +kernel
theorem dX12_insideBy_27 : decode cX12_insideBy 27 = .ok (.ldc2_w 255, 3) := by decide +kernel
theorem dX12_insideBy_30 : decode cX12_insideBy 30 = .ok (.lrem, 1) := by decide +kernel
theorem dX12_insideBy_31 : decode cX12_insideBy 31 = .ok (.lstore 4, 2) := by decide +kernel
theorem dX12_insideBy_33 : decode cX12_insideBy 33 = .ok (.aload_n 0, 1) := by decide +kernel
theorem dX12_insideBy_34 : decode cX12_insideBy 34 = .ok (.aload_n 0, 1) := by decide +kernel
theorem dX12_insideBy_35 : decode cX12_insideBy 35 = .ok (.getfield 19, 3) := by decide +kernel
theorem dX12_insideBy_38 : decode cX12_insideBy 38 = .ok (.iload 7, 2) := by decide +kernel
theorem dX12_insideBy_40 : decode cX12_insideBy 40 = .ok (.iaload, 1) := by decide +kernel
theorem dX12_insideBy_41 : decode cX12_insideBy 41 = .ok (.putfield 181, 3) := by decide +kernel
theorem dX12_insideBy_44 : decode cX12_insideBy 44 = .ok (.aload_n 0, 1) := by decide +kernel
theorem dX12_insideBy_45 : decode cX12_insideBy 45 = .ok (.lload 4, 2) := by decide +kernel
theorem dX12_insideBy_47 : decode cX12_insideBy 47 = .ok (.ldc2_w 238, 3) := by decide +kernel
theorem dX12_insideBy_50 : decode cX12_insideBy 50 = .ok (.lrem, 1) := by decide +kernel
theorem dX12_insideBy_51 : decode cX12_insideBy 51 = .ok (.l2i, 1) := by decide +kernel
theorem dX12_insideBy_52 : decode cX12_insideBy 52 = .ok (.putfield 184, 3) := by decide +kernel
theorem dX12_insideBy_55 : decode cX12_insideBy 55 = .ok (.aload_n 0, 1) := by decide +kernel
theorem dX12_insideBy_56 : decode cX12_insideBy 56 = .ok (.iload 7, 2) := by decide +kernel
theorem dX12_insideBy_58 : decode cX12_insideBy 58 = .ok (.iload_n 2, 1) := by decide +kernel
theorem dX12_insideBy_59 : decode cX12_insideBy 59 = .ok (.invokevirtual 203, 3) := by decide +kernel
theorem dX12_insideBy_62 : decode cX12_insideBy 62 = .ok (.iload 6, 2) := by decide +kernel
theorem dX12_insideBy_64 : decode cX12_insideBy 64 = .ok (.aload_n 0, 1) := by decide +kernel
theorem dX12_insideBy_65 : decode cX12_insideBy 65 = .ok (.getfield 181, 3) := by decide +kernel
theorem dX12_insideBy_68 : decode cX12_insideBy 68 = .ok (.iload_n 3, 1) := by decide +kernel
theorem dX12_insideBy_69 : decode cX12_insideBy 69 = .ok (.if_icmp .ne 7, 3) := by decide +kernel
theorem dX12_insideBy_72 : decode cX12_insideBy 72 = .ok (.iconst 1, 1) := by decide +kernel
theorem dX12_insideBy_73 : decode cX12_insideBy 73 = .ok (.goto 4, 3) := by decide +kernel
theorem dX12_insideBy_76 : decode cX12_insideBy 76 = .ok (.iconst 0, 1) := by decide +kernel
theorem dX12_insideBy_77 : decode cX12_insideBy 77 = .ok (.iadd, 1) := by decide +kernel
theorem dX12_insideBy_78 : decode cX12_insideBy 78 = .ok (.istore 6, 2) := by decide +kernel
theorem dX12_insideBy_80 : decode cX12_insideBy 80 = .ok (.iinc 7 1, 3) := by decide +kernel
theorem dX12_insideBy_83 : decode cX12_insideBy 83 = .ok (.goto (-71), 3) := by decide +kernel
theorem dX12_insideBy_86 : decode cX12_insideBy 86 = .ok (.iload 6, 2) := by decide +kernel
theorem dX12_insideBy_88 : decode cX12_insideBy 88 = .ok (.ireturn, 1) := by decide +kernel
set_option maxRecDepth 100000 in
set_option maxHeartbeats 4000000 in
theorem kX12_insideBy (l : Launch) (w : wT) (hw : yOk w 20) (σ : Hp) (a1 : Int32) (a2 : Int32) (a3 : Int32) (K : Int32 → Hp → Prop) (hv : VX12_insideBy K σ a1 a2 a3) : yMet l w mcf 20 yX12_insideBy cX12_insideBy 8 (some .int) 6 [.ref (w.1 0), .int a1, .int a2, .int a3] σ (yQi w mcf 20 K) := by
  unfold VX12_insideBy at hv
  refine y_start (lv0 := [(0, .ref (w.1 0)), (1, .int a1), (2, .int a2), (3, .int a3)]) (by decide +kernel) (own := RX12) rfl hw (Nat.le_of_ble_eq_true rfl) rfl (fun p e s m below meth c A E => ?_)
  have hL12 : ∀ (n12 : Nat) (σ : Hp) (l2 : Int32) (l3 : Int32) (l4 : Int64) (l6 : Int32) (l7 : Int32), VX12_insideBy_L12 K n12 σ l2 l3 l4 l6 l7 → YY p l e (yRm 6) s m [.ref (w.1 0), .int a1, .int a2, .int a3].toArray below meth c w mcf 20 A (MQ below (yQi w mcf 20 K A) [.ref (w.1 0), .int a1, .int a2, .int a3].toArray s 0 0 A) 8 σ 12 [(0, .ref (w.1 0)), (2, .int l2), (3, .int l3), (4, .long l4), (6, .int l6), (7, .int l7)] [] := by
    intro n12
    induction n12 with
    | zero => exact fun _ _ _ _ _ _ hv => (by unfold VX12_insideBy_L12 at hv; exact hv.elim)
    | succ n12 ih12 =>
      intro σ l2 l3 l4 l6 l7 hv
      unfold VX12_insideBy_L12 at hv
      refine y_iload E dX12_insideBy_12 5 rfl ?_
      refine y_aload_n E dX12_insideBy_14 0 rfl ?_
      refine gf_X12_2 E (by decide) (by decide) wm_489 dX12_insideBy_15 ?_
      refine y_icmp_ge (tgt := 86) E dX12_insideBy_18 (by decide) (fun c2 => ?_) (fun c2 => ?_)
      · replace hv := ite_t hv c2
        refine y_iload E dX12_insideBy_86 4 rfl ?_
        exact y_iret E dX12_insideBy_88 hv
      · replace hv := ite_f hv c2
        refine y_lload E dX12_insideBy_21 3 rfl ?_
        refine y_ldc2 (v := 48271) E wm_667 dX12_insideBy_23 ?_
        refine y_lmul E dX12_insideBy_26 ?_
        refine y_ldc2 (v := 2147483647) E wm_668 dX12_insideBy_27 ?_
        refine y_lrem E dX12_insideBy_30 (by decide) ?_
        refine y_nml (fun x3 hx3 => ?_)
        replace hv := hv x3 hx3
        refine y_lstore (lv' := [(4, .long x3), (0, .ref (w.1 0)), (2, .int l2), (3, .int l3), (6, .int l6), (7, .int l7)]) E dX12_insideBy_31 (by decide) rfl ?_
        refine y_aload_n E dX12_insideBy_33 1 rfl ?_
        refine y_aload_n E dX12_insideBy_34 1 rfl ?_
        refine gf_X12_5 E (by decide) (by decide) wm_490 dX12_insideBy_35 ?_
        refine y_iload E dX12_insideBy_38 5 rfl ?_
        obtain ⟨hi, hv⟩ := hv
        refine y_iald E (Nat.lt_of_lt_of_le (show 4 < 5 by decide) (by decide)) (mc_m_cellOf (by decide) (by decide)) hi dX12_insideBy_40 ?_
        refine pf_X12_32 E (by decide) (by decide) wm_581 dX12_insideBy_41 ?_
        refine y_nmH (fun u4 hu4 => ?_)
        replace hv := hv u4 hu4
        refine y_aload_n E dX12_insideBy_44 1 rfl ?_
        refine y_lload E dX12_insideBy_45 0 rfl ?_
        refine y_ldc2 (v := 5) E wm_644 dX12_insideBy_47 ?_
        refine y_lrem E dX12_insideBy_50 (by decide) ?_
        refine y_l2i E dX12_insideBy_51 ?_
        refine pf_X12_33 E (by decide) (by decide) wm_582 dX12_insideBy_52 ?_
        refine y_nmH (fun u5 hu5 => ?_)
        replace hv := hv u5 hu5
        refine y_aload_n E dX12_insideBy_55 1 rfl ?_
        refine y_iload E dX12_insideBy_56 5 rfl ?_
        refine y_iload_n E dX12_insideBy_58 2 rfl ?_
        refine y_callv E (y_runV E (rest := []) (kX12_goesBehind l w E.2.2.1 u5 l7 l2 _ hv) (y_cwV 2 E.1.2.2.2.2 wm_599 wm_600 wm_601 wm_479 wm_602 (by decide +kernel) (yRm_le (by decide) (by decide))) (Nat.lt_of_lt_of_le (show 0 < 1 by decide) (by decide)) (mc_X12 (by decide) (by decide)) rfl rfl rfl (Nat.le_of_ble_eq_true rfl) dX12_insideBy_59) (fun u7 hk => ?_)
        clear hv
        have hv := hk
        clear hk
        refine y_iload E dX12_insideBy_62 4 rfl ?_
        refine y_aload_n E dX12_insideBy_64 1 rfl ?_
        refine gf_X12_32 E (by decide) (by decide) wm_581 dX12_insideBy_65 ?_
        refine y_iload_n E dX12_insideBy_68 3 rfl ?_
        refine y_icmp_ne (tgt := 76) E dX12_insideBy_69 (by decide) (fun c8 => ?_) (fun c8 => ?_)
        · replace hv := ite_f hv c8
          refine y_iconst (v := 0) E dX12_insideBy_76 (by decide) ?_
          refine y_iadd E dX12_insideBy_77 ?_
          refine y_nmi (fun x9 hx9 => ?_)
          replace hv := hv x9 hx9
          refine y_istore (lv' := [(6, .int x9), (4, .long x3), (0, .ref (w.1 0)), (2, .int l2), (3, .int l3), (7, .int l7)]) E dX12_insideBy_78 (by decide) rfl ?_
          obtain ⟨x10, hx10⟩ : ∃ z : Int32, z = l7 + 1 := ⟨_, rfl⟩
          replace hv := hv x10 hx10
          refine y_iinc (v := x10) (lv' := [(7, .int x10), (6, .int x9), (4, .long x3), (0, .ref (w.1 0)), (2, .int l2), (3, .int l3)]) E dX12_insideBy_80 5 rfl (by rw [hx10]; rfl) (by decide) rfl ?_
          refine y_goto (tgt := 12) E dX12_insideBy_83 (by decide) ?_
          refine y_lv (lv' := [(0, .ref (w.1 0)), (2, .int l2), (3, .int l3), (4, .long x3), (6, .int x9), (7, .int x10)]) [3, 4, 5, 2, 1, 0] rfl ?_
          exact ih12 u7 l2 l3 x3 x9 x10 hv
        · replace hv := ite_t hv c8
          refine y_iconst (v := 1) E dX12_insideBy_72 (by decide) ?_
          refine y_goto (tgt := 77) E dX12_insideBy_73 (by decide) ?_
          refine y_iadd E dX12_insideBy_77 ?_
          refine y_nmi (fun x11 hx11 => ?_)
          replace hv := hv x11 hx11
          refine y_istore (lv' := [(6, .int x11), (4, .long x3), (0, .ref (w.1 0)), (2, .int l2), (3, .int l3), (7, .int l7)]) E dX12_insideBy_78 (by decide) rfl ?_
          obtain ⟨x12, hx12⟩ : ∃ z : Int32, z = l7 + 1 := ⟨_, rfl⟩
          replace hv := hv x12 hx12
          refine y_iinc (v := x12) (lv' := [(7, .int x12), (6, .int x11), (4, .long x3), (0, .ref (w.1 0)), (2, .int l2), (3, .int l3)]) E dX12_insideBy_80 5 rfl (by rw [hx12]; rfl) (by decide) rfl ?_
          refine y_goto (tgt := 12) E dX12_insideBy_83 (by decide) ?_
          refine y_lv (lv' := [(0, .ref (w.1 0)), (2, .int l2), (3, .int l3), (4, .long x3), (6, .int x11), (7, .int x12)]) [3, 4, 5, 2, 1, 0] rfl ?_
          exact ih12 u7 l2 l3 x3 x11 x12 hv
  refine y_iload_n E dX12_insideBy_0 1 rfl ?_
  refine y_i2l E dX12_insideBy_1 ?_
  refine y_lconst (v := 1) E dX12_insideBy_2 (by decide) ?_
  refine y_ladd E dX12_insideBy_3 ?_
  refine y_nml (fun x1 hx1 => ?_)
  replace hv := hv x1 hx1
  refine y_lstore (lv' := [(4, .long x1), (0, .ref (w.1 0)), (1, .int a1), (2, .int a2), (3, .int a3)]) E dX12_insideBy_4 (by decide) rfl ?_
  refine y_iconst (v := 0) E dX12_insideBy_6 (by decide) ?_
  refine y_istore (lv' := [(6, .int 0), (4, .long x1), (0, .ref (w.1 0)), (1, .int a1), (2, .int a2), (3, .int a3)]) E dX12_insideBy_7 (by decide) rfl ?_
  refine y_iconst (v := 0) E dX12_insideBy_9 (by decide) ?_
  refine y_istore (lv' := [(7, .int 0), (6, .int 0), (4, .long x1), (0, .ref (w.1 0)), (1, .int a1), (2, .int a2), (3, .int a3)]) E dX12_insideBy_10 (by decide) rfl ?_
  refine y_lv (lv' := [(0, .ref (w.1 0)), (2, .int a2), (3, .int a3), (4, .long x1), (6, .int 0), (7, .int 0)]) [3, 5, 6, 2, 1, 0] rfl ?_
  obtain ⟨n0, hv⟩ := hv
  exact hL12 n0 σ a2 a3 x1 0 0 hv
theorem dX12_isDrawn_0 : decode cX12_isDrawn 0 = .ok (.iload_n 0, 1) := by decide +kernel
theorem dX12_isDrawn_1 : decode cX12_isDrawn 1 = .ok (.iconst 0, 1) := by decide +kernel
theorem dX12_isDrawn_2 : decode cX12_isDrawn 2 = .ok (.ldc_w 257, 3) := by decide +kernel
theorem dX12_isDrawn_5 : decode cX12_isDrawn 5 = .ok (.invokestatic 75, 3) := by decide +kernel
theorem dX12_isDrawn_8 : decode cX12_isDrawn 8 = .ok (.ifCond .eq 21, 3) := by decide +kernel
theorem dX12_isDrawn_11 : decode cX12_isDrawn 11 = .ok (.iload_n 1, 1) := by decide +kernel
theorem dX12_isDrawn_12 : decode cX12_isDrawn 12 = .ok (.invokestatic 206, 3) := by decide +kernel
theorem dX12_isDrawn_15 : decode cX12_isDrawn 15 = .ok (.ifCond .eq 14, 3) := by decide +kernel
theorem dX12_isDrawn_18 : decode cX12_isDrawn 18 = .ok (.iload_n 2, 1) := by decide +kernel
theorem dX12_isDrawn_19 : decode cX12_isDrawn 19 = .ok (.invokestatic 79, 3) := by decide +kernel
theorem dX12_isDrawn_22 : decode cX12_isDrawn 22 = .ok (.ifCond .eq 7, 3) := by decide +kernel
theorem dX12_isDrawn_25 : decode cX12_isDrawn 25 = .ok (.iconst 1, 1) := by decide +kernel
theorem dX12_isDrawn_26 : decode cX12_isDrawn 26 = .ok (.goto 4, 3) := by decide +kernel
theorem dX12_isDrawn_29 : decode cX12_isDrawn 29 = .ok (.iconst 0, 1) := by decide +kernel
theorem dX12_isDrawn_30 : decode cX12_isDrawn 30 = .ok (.ireturn, 1) := by decide +kernel
set_option maxRecDepth 100000 in
set_option maxHeartbeats 4000000 in
theorem kX12_isDrawn (l : Launch) (w : wT) (hw : yOk w 20) (σ : Hp) (a1 : Int32) (a2 : Int32) (a3 : Int32) (K : Int32 → Hp → Prop) (hv : VX12_isDrawn K σ a1 a2 a3) : yMet l w mcf 20 yX12_isDrawn cX12_isDrawn 3 (some .boolean) 3 [.int a1, .int a2, .int a3] σ (yQi w mcf 20 K) := by
  unfold VX12_isDrawn at hv
  refine y_start (lv0 := [(0, .int a1), (1, .int a2), (2, .int a3)]) (by decide +kernel) (own := RX12) rfl hw (Nat.le_of_ble_eq_true rfl) rfl (fun p e s m below meth c A E => ?_)
  refine y_iload_n E dX12_isDrawn_0 0 rfl ?_
  refine y_iconst (v := 0) E dX12_isDrawn_1 (by decide) ?_
  refine y_ldcw (v := 99999) E wm_669 dX12_isDrawn_2 ?_
  refine y_calli E (y_runS E (rest := []) (kX12_in l w E.2.2.1 σ a1 0 99999 _ hv) (y_cwS 3 E.1.2.2.2.2 wm_477 wm_478 wm_479 wm_480 (by decide +kernel) (yRm_le (by decide) (by decide))) rfl rfl (Nat.le_of_ble_eq_true rfl) dX12_isDrawn_5) (fun v1 u2 hk => ?_)
  clear hv
  have hv := hk
  clear hk
  refine y_if_eq (tgt := 29) E dX12_isDrawn_8 (by decide) (fun c3 => ?_) (fun c3 => ?_)
  · replace hv := ite_t hv c3
    refine y_iconst (v := 0) E dX12_isDrawn_29 (by decide) ?_
    exact y_nret E dX12_isDrawn_30 (by decide) hv
  · replace hv := ite_f hv c3
    refine y_iload_n E dX12_isDrawn_11 1 rfl ?_
    refine y_calli E (y_runS E (rest := []) (kX12_areSteps l w E.2.2.1 u2 a2 _ hv) (y_cwS 1 E.1.2.2.2.2 wm_606 wm_611 wm_479 wm_612 (by decide +kernel) (yRm_le (by decide) (by decide))) rfl rfl (Nat.le_of_ble_eq_true rfl) dX12_isDrawn_12) (fun v4 u5 hk => ?_)
    clear hv
    have hv := hk
    clear hk
    refine y_if_eq (tgt := 29) E dX12_isDrawn_15 (by decide) (fun c6 => ?_) (fun c6 => ?_)
    · replace hv := ite_t hv c6
      refine y_iconst (v := 0) E dX12_isDrawn_29 (by decide) ?_
      exact y_nret E dX12_isDrawn_30 (by decide) hv
    · replace hv := ite_f hv c6
      refine y_iload_n E dX12_isDrawn_18 2 rfl ?_
      refine y_calli E (y_runS E (rest := []) (kX12_isCell l w E.2.2.1 u5 a3 _ hv) (y_cwS 1 E.1.2.2.2.2 wm_482 wm_487 wm_479 wm_488 (by decide +kernel) (yRm_le (by decide) (by decide))) rfl rfl (Nat.le_of_ble_eq_true rfl) dX12_isDrawn_19) (fun v7 u8 hk => ?_)
      clear hv
      have hv := hk
      clear hk
      refine y_if_eq (tgt := 29) E dX12_isDrawn_22 (by decide) (fun c9 => ?_) (fun c9 => ?_)
      · replace hv := ite_t hv c9
        refine y_iconst (v := 0) E dX12_isDrawn_29 (by decide) ?_
        exact y_nret E dX12_isDrawn_30 (by decide) hv
      · replace hv := ite_f hv c9
        refine y_iconst (v := 1) E dX12_isDrawn_25 (by decide) ?_
        refine y_goto (tgt := 30) E dX12_isDrawn_26 (by decide) ?_
        exact y_nret E dX12_isDrawn_30 (by decide) hv
theorem dX12_drawn_0 : decode cX12_drawn 0 = .ok (.iload_n 1, 1) := by decide +kernel
theorem dX12_drawn_1 : decode cX12_drawn 1 = .ok (.iload_n 2, 1) := by decide +kernel
theorem dX12_drawn_2 : decode cX12_drawn 2 = .ok (.iload_n 3, 1) := by decide +kernel
theorem dX12_drawn_3 : decode cX12_drawn 3 = .ok (.invokestatic 258, 3) := by decide +kernel
theorem dX12_drawn_6 : decode cX12_drawn 6 = .ok (.ifCond .eq 13, 3) := by decide +kernel
theorem dX12_drawn_9 : decode cX12_drawn 9 = .ok (.aload_n 0, 1) := by decide +kernel
theorem dX12_drawn_10 : decode cX12_drawn 10 = .ok (.iload_n 1, 1) := by decide +kernel
theorem dX12_drawn_11 : decode cX12_drawn 11 = .ok (.iload_n 2, 1) := by decide +kernel
theorem dX12_drawn_12 : decode cX12_drawn 12 = .ok (.iload_n 3, 1) := by decide +kernel
theorem dX12_drawn_13 : decode cX12_drawn 13 = .ok (.invokevirtual 261, 3) := by decide +kernel
theorem dX12_drawn_16 : decode cX12_drawn 16 = .ok (.goto 5, 3) := by decide +kernel
theorem dX12_drawn_19 : decode cX12_drawn 19 = .ok (.bipush (-2), 2) := by decide +kernel
theorem dX12_drawn_21 : decode cX12_drawn 21 = .ok (.ireturn, 1) := by decide +kernel
set_option maxRecDepth 100000 in
set_option maxHeartbeats 4000000 in
theorem kX12_drawn (l : Launch) (w : wT) (hw : yOk w 20) (σ : Hp) (a1 : Int32) (a2 : Int32) (a3 : Int32) (K : Int32 → Hp → Prop) (hv : VX12_drawn K σ a1 a2 a3) : yMet l w mcf 20 yX12_drawn cX12_drawn 4 (some .int) 7 [.ref (w.1 0), .int a1, .int a2, .int a3] σ (yQi w mcf 20 K) := by
  unfold VX12_drawn at hv
  refine y_start (lv0 := [(0, .ref (w.1 0)), (1, .int a1), (2, .int a2), (3, .int a3)]) (by decide +kernel) (own := RX12) rfl hw (Nat.le_of_ble_eq_true rfl) rfl (fun p e s m below meth c A E => ?_)
  refine y_iload_n E dX12_drawn_0 1 rfl ?_
  refine y_iload_n E dX12_drawn_1 2 rfl ?_
  refine y_iload_n E dX12_drawn_2 3 rfl ?_
  refine y_calli E (y_runS E (rest := []) (kX12_isDrawn l w E.2.2.1 σ a1 a2 a3 _ hv) (y_cwS 3 E.1.2.2.2.2 wm_670 wm_675 wm_479 wm_676 (by decide +kernel) (yRm_le (by decide) (by decide))) rfl rfl (Nat.le_of_ble_eq_true rfl) dX12_drawn_3) (fun v1 u2 hk => ?_)
  clear hv
  have hv := hk
  clear hk
  refine y_if_eq (tgt := 19) E dX12_drawn_6 (by decide) (fun c3 => ?_) (fun c3 => ?_)
  · replace hv := ite_t hv c3
    refine y_bipush (v := (-2)) E dX12_drawn_19 (by decide) ?_
    exact y_iret E dX12_drawn_21 hv
  · replace hv := ite_f hv c3
    refine y_aload_n E dX12_drawn_9 0 rfl ?_
    refine y_iload_n E dX12_drawn_10 1 rfl ?_
    refine y_iload_n E dX12_drawn_11 2 rfl ?_
    refine y_iload_n E dX12_drawn_12 3 rfl ?_
    refine y_calli E (y_runV E (rest := []) (kX12_insideBy l w E.2.2.1 u2 a1 a2 a3 _ hv) (y_cwV 3 E.1.2.2.2.2 wm_671 wm_672 wm_673 wm_479 wm_674 (by decide +kernel) (yRm_le (by decide) (by decide))) (Nat.lt_of_lt_of_le (show 0 < 1 by decide) (by decide)) (mc_X12 (by decide) (by decide)) rfl rfl rfl (Nat.le_of_ble_eq_true rfl) dX12_drawn_13) (fun v4 u5 hk => ?_)
    clear hv
    have hv := hk
    clear hk
    refine y_goto (tgt := 21) E dX12_drawn_16 (by decide) ?_
    exact y_iret E dX12_drawn_21 hv
theorem dX12_mean_0 : decode cX12_mean 0 = .ok (.iload_n 3, 1) := by decide +kernel
theorem dX12_mean_1 : decode cX12_mean 1 = .ok (.ifCond .lt 38, 3) := by decide +kernel
theorem dX12_mean_4 : decode cX12_mean 4 = .ok (.iload_n 1, 1) := by decide +kernel
theorem dX12_mean_5 : decode cX12_mean 5 = .ok (.iload_n 3, 1) := by decide +kernel
theorem dX12_mean_6 : decode cX12_mean 6 = .ok (.bipush 100, 2) := by decide +kernel
theorem dX12_mean_8 : decode cX12_mean 8 = .ok (.idiv, 1) := by decide +kernel
theorem dX12_mean_9 : decode cX12_mean 9 = .ok (.iload_n 3, 1) := by decide +kernel
theorem dX12_mean_10 : decode cX12_mean 10 = .ok (.bipush 100, 2) := by decide +kernel
theorem dX12_mean_12 : decode cX12_mean 12 = .ok (.irem, 1) := by decide +kernel
theorem dX12_mean_13 : decode cX12_mean 13 = .ok (.invokestatic 258, 3) := by decide +kernel
theorem dX12_mean_16 : decode cX12_mean 16 = .ok (.ifCond .eq 23, 3) := by decide +kernel
theorem dX12_mean_19 : decode cX12_mean 19 = .ok (.iload_n 2, 1) := by decide +kernel
theorem dX12_mean_20 : decode cX12_mean 20 = .ok (.iconst 1, 1) := by decide +kernel
theorem dX12_mean_21 : decode cX12_mean 21 = .ok (.bipush 40, 2) := by decide +kernel
theorem dX12_mean_23 : decode cX12_mean 23 = .ok (.invokestatic 75, 3) := by decide +kernel
theorem dX12_mean_26 : decode cX12_mean 26 = .ok (.ifCond .eq 13, 3) := by decide +kernel
theorem dX12_mean_29 : decode cX12_mean 29 = .ok (.iload 4, 2) := by decide +kernel
theorem dX12_mean_31 : decode cX12_mean 31 = .ok (.iconst 0, 1) := by decide +kernel
theorem dX12_mean_32 : decode cX12_mean 32 = .ok (.iconst 1, 1) := by decide +kernel
theorem dX12_mean_33 : decode cX12_mean 33 = .ok (.invokestatic 75, 3) := by decide +kernel
theorem dX12_mean_36 : decode cX12_mean 36 = .ok (.ifCond .ne 7, 3) := by decide +kernel
theorem dX12_mean_39 : decode cX12_mean 39 = .ok (.ldc2_w 233, 3) := by decide +kernel
theorem dX12_mean_42 : decode cX12_mean 42 = .ok (.lreturn, 1) := by decide +kernel
theorem dX12_mean_43 : decode cX12_mean 43 = .ok (.lconst 0, 1) := by decide +kernel
theorem dX12_mean_44 : decode cX12_mean 44 = .ok (.lstore 5, 2) := by decide +kernel
theorem dX12_mean_46 : decode cX12_mean 46 = .ok (.iconst 0, 1) := by decide +kernel
theorem dX12_mean_47 : decode cX12_mean 47 = .ok (.istore 7, 2) := by decide +kernel
theorem dX12_mean_49 : decode cX12_mean 49 = .ok (.iload 7, 2) := by decide +kernel
theorem dX12_mean_51 : decode cX12_mean 51 = .ok (.iload_n 2, 1) := by decide +kernel
theorem dX12_mean_52 : decode cX12_mean 52 = .ok (.if_icmp .ge 31, 3) := by decide +kernel
theorem dX12_mean_55 : decode cX12_mean 55 = .ok (.lload 5, 2) := by decide +kernel
theorem dX12_mean_57 : decode cX12_mean 57 = .ok (.aload_n 0, 1) := by decide +kernel
theorem dX12_mean_58 : decode cX12_mean 58 = .ok (.iload_n 1, 1) := by decide +kernel
theorem dX12_mean_59 : decode cX12_mean 59 = .ok (.iload 7, 2) := by decide +kernel
theorem dX12_mean_61 : decode cX12_mean 61 = .ok (.iadd, 1) := by decide +kernel
theorem dX12_mean_62 : decode cX12_mean 62 = .ok (.iload_n 3, 1) := by decide +kernel
theorem dX12_mean_63 : decode cX12_mean 63 = .ok (.bipush 100, 2) := by decide +kernel
theorem dX12_mean_65 : decode cX12_mean 65 = .ok (.idiv, 1) := by decide +kernel
theorem dX12_mean_66 : decode cX12_mean 66 = .ok (.iload_n 3, 1) := by decide +kernel
theorem dX12_mean_67 : decode cX12_mean 67 = .ok (.bipush 100, 2) := by decide +kernel
theorem dX12_mean_69 : decode cX12_mean 69 = .ok (.irem, 1) := by decide +kernel
theorem dX12_mean_70 : decode cX12_mean 70 = .ok (.invokevirtual 261, 3) := by decide +kernel
theorem dX12_mean_73 : decode cX12_mean 73 = .ok (.i2l, 1) := by decide +kernel
theorem dX12_mean_74 : decode cX12_mean 74 = .ok (.ladd, 1) := by decide +kernel
theorem dX12_mean_75 : decode cX12_mean 75 = .ok (.lstore 5, 2) := by decide +kernel
theorem dX12_mean_77 : decode cX12_mean 77 = .ok (.iinc 7 1, 3) := by decide +kernel
theorem dX12_mean_80 : decode cX12_mean 80 = .ok (.goto (-31), 3) := by decide +kernel
theorem dX12_mean_83 : decode cX12_mean 83 = .ok (.lload 5, 2) := by decide +kernel
theorem dX12_mean_85 : decode cX12_mean 85 = .ok (.iload_n 2, 1) := by decide +kernel
theorem dX12_mean_86 : decode cX12_mean 86 = .ok (.i2l, 1) := by decide +kernel
theorem dX12_mean_87 : decode cX12_mean 87 = .ok (.iload 4, 2) := by decide +kernel
theorem dX12_mean_89 : decode cX12_mean 89 = .ok (.invokestatic 240, 3) := by decide +kernel
theorem dX12_mean_92 : decode cX12_mean 92 = .ok (.lreturn, 1) := by decide +kernel
set_option maxRecDepth 100000 in
set_option maxHeartbeats 4000000 in
theorem kX12_mean (l : Launch) (w : wT) (hw : yOk w 20) (σ : Hp) (a1 : Int32) (a2 : Int32) (a3 : Int32) (a4 : Int32) (K : Int64 → Hp → Prop) (hv : VX12_mean K σ a1 a2 a3 a4) : yMet l w mcf 20 yX12_mean cX12_mean 8 (some .long) 7 [.ref (w.1 0), .int a1, .int a2, .int a3, .int a4] σ (yQl w mcf 20 K) := by
  unfold VX12_mean at hv
  refine y_start (lv0 := [(0, .ref (w.1 0)), (1, .int a1), (2, .int a2), (3, .int a3), (4, .int a4)]) (by decide +kernel) (own := RX12) rfl hw (Nat.le_of_ble_eq_true rfl) rfl (fun p e s m below meth c A E => ?_)
  have hL49 : ∀ (n49 : Nat) (σ : Hp) (l1 : Int32) (l2 : Int32) (l3 : Int32) (l4 : Int32) (l5 : Int64) (l7 : Int32), VX12_mean_L49 K n49 σ l1 l2 l3 l4 l5 l7 → YY p l e (yRm 7) s m [.ref (w.1 0), .int a1, .int a2, .int a3, .int a4].toArray below meth c w mcf 20 A (MQ below (yQl w mcf 20 K A) [.ref (w.1 0), .int a1, .int a2, .int a3, .int a4].toArray s 0 0 A) 8 σ 49 [(0, .ref (w.1 0)), (1, .int l1), (2, .int l2), (3, .int l3), (4, .int l4), (5, .long l5), (7, .int l7)] [] := by
    intro n49
    induction n49 with
    | zero => exact fun _ _ _ _ _ _ _ hv => (by unfold VX12_mean_L49 at hv; exact hv.elim)
    | succ n49 ih49 =>
      intro σ l1 l2 l3 l4 l5 l7 hv
      unfold VX12_mean_L49 at hv
      refine y_iload E dX12_mean_49 6 rfl ?_
      refine y_iload_n E dX12_mean_51 2 rfl ?_
      refine y_icmp_ge (tgt := 83) E dX12_mean_52 (by decide) (fun c11 => ?_) (fun c11 => ?_)
      · replace hv := ite_t hv c11
        refine y_lload E dX12_mean_83 5 rfl ?_
        refine y_iload_n E dX12_mean_85 2 rfl ?_
        refine y_i2l E dX12_mean_86 ?_
        refine y_iload E dX12_mean_87 4 rfl ?_
        refine y_calll E (y_runS E (rest := []) (kX12_lowest l w E.2.2.1 σ l5 l2.toInt64 l4 _ hv) (y_cwS 3 E.1.2.2.2.2 wm_645 wm_646 wm_479 wm_647 (by decide +kernel) (yRm_le (by decide) (by decide))) rfl rfl (Nat.le_of_ble_eq_true rfl) dX12_mean_89) (fun v12 u13 hk => ?_)
        clear hv
        have hv := hk
        clear hk
        exact y_lret E dX12_mean_92 hv
      · replace hv := ite_f hv c11
        refine y_lload E dX12_mean_55 5 rfl ?_
        refine y_aload_n E dX12_mean_57 0 rfl ?_
        refine y_iload_n E dX12_mean_58 1 rfl ?_
        refine y_iload E dX12_mean_59 6 rfl ?_
        refine y_iadd E dX12_mean_61 ?_
        refine y_iload_n E dX12_mean_62 3 rfl ?_
        refine y_bipush (v := 100) E dX12_mean_63 (by decide) ?_
        refine y_idiv E dX12_mean_65 (by decide) ?_
        refine y_iload_n E dX12_mean_66 3 rfl ?_
        refine y_bipush (v := 100) E dX12_mean_67 (by decide) ?_
        refine y_irem E dX12_mean_69 (by decide) ?_
        refine y_calli E (y_runV E (rest := [.long l5]) (kX12_insideBy l w E.2.2.1 σ (l1 + l7) (l3 / 100) (jrem l3 100) _ hv) (y_cwV 3 E.1.2.2.2.2 wm_671 wm_672 wm_673 wm_479 wm_674 (by decide +kernel) (yRm_le (by decide) (by decide))) (Nat.lt_of_lt_of_le (show 0 < 1 by decide) (by decide)) (mc_X12 (by decide) (by decide)) rfl rfl rfl (Nat.le_of_ble_eq_true rfl) dX12_mean_70) (fun v14 u15 hk => ?_)
        clear hv
        have hv := hk
        clear hk
        refine y_i2l E dX12_mean_73 ?_
        refine y_ladd E dX12_mean_74 ?_
        refine y_nml (fun x16 hx16 => ?_)
        replace hv := hv x16 hx16
        refine y_lstore (lv' := [(5, .long x16), (0, .ref (w.1 0)), (1, .int l1), (2, .int l2), (3, .int l3), (4, .int l4), (7, .int l7)]) E dX12_mean_75 (by decide) rfl ?_
        obtain ⟨x17, hx17⟩ : ∃ z : Int32, z = l7 + 1 := ⟨_, rfl⟩
        replace hv := hv x17 hx17
        refine y_iinc (v := x17) (lv' := [(7, .int x17), (5, .long x16), (0, .ref (w.1 0)), (1, .int l1), (2, .int l2), (3, .int l3), (4, .int l4)]) E dX12_mean_77 6 rfl (by rw [hx17]; rfl) (by decide) rfl ?_
        refine y_goto (tgt := 49) E dX12_mean_80 (by decide) ?_
        refine y_lv (lv' := [(0, .ref (w.1 0)), (1, .int l1), (2, .int l2), (3, .int l3), (4, .int l4), (5, .long x16), (7, .int x17)]) [2, 3, 4, 5, 6, 1, 0] rfl ?_
        exact ih49 u15 l1 l2 l3 l4 x16 x17 hv
  refine y_iload_n E dX12_mean_0 3 rfl ?_
  refine y_if_lt (tgt := 39) E dX12_mean_1 (by decide) (fun c1 => ?_) (fun c1 => ?_)
  · replace hv := ite_t hv c1
    refine y_ldc2 (v := (-4611686018427387904)) E wm_643 dX12_mean_39 ?_
    exact y_lret E dX12_mean_42 hv
  · replace hv := ite_f hv c1
    refine y_iload_n E dX12_mean_4 1 rfl ?_
    refine y_iload_n E dX12_mean_5 3 rfl ?_
    refine y_bipush (v := 100) E dX12_mean_6 (by decide) ?_
    refine y_idiv E dX12_mean_8 (by decide) ?_
    refine y_iload_n E dX12_mean_9 3 rfl ?_
    refine y_bipush (v := 100) E dX12_mean_10 (by decide) ?_
    refine y_irem E dX12_mean_12 (by decide) ?_
    refine y_calli E (y_runS E (rest := []) (kX12_isDrawn l w E.2.2.1 σ a1 (a3 / 100) (jrem a3 100) _ hv) (y_cwS 3 E.1.2.2.2.2 wm_670 wm_675 wm_479 wm_676 (by decide +kernel) (yRm_le (by decide) (by decide))) rfl rfl (Nat.le_of_ble_eq_true rfl) dX12_mean_13) (fun v2 u3 hk => ?_)
    clear hv
    have hv := hk
    clear hk
    refine y_if_eq (tgt := 39) E dX12_mean_16 (by decide) (fun c4 => ?_) (fun c4 => ?_)
    · replace hv := ite_t hv c4
      refine y_ldc2 (v := (-4611686018427387904)) E wm_643 dX12_mean_39 ?_
      exact y_lret E dX12_mean_42 hv
    · replace hv := ite_f hv c4
      refine y_iload_n E dX12_mean_19 2 rfl ?_
      refine y_iconst (v := 1) E dX12_mean_20 (by decide) ?_
      refine y_bipush (v := 40) E dX12_mean_21 (by decide) ?_
      refine y_calli E (y_runS E (rest := []) (kX12_in l w E.2.2.1 u3 a2 1 40 _ hv) (y_cwS 3 E.1.2.2.2.2 wm_477 wm_478 wm_479 wm_480 (by decide +kernel) (yRm_le (by decide) (by decide))) rfl rfl (Nat.le_of_ble_eq_true rfl) dX12_mean_23) (fun v5 u6 hk => ?_)
      clear hv
      have hv := hk
      clear hk
      refine y_if_eq (tgt := 39) E dX12_mean_26 (by decide) (fun c7 => ?_) (fun c7 => ?_)
      · replace hv := ite_t hv c7
        refine y_ldc2 (v := (-4611686018427387904)) E wm_643 dX12_mean_39 ?_
        exact y_lret E dX12_mean_42 hv
      · replace hv := ite_f hv c7
        refine y_iload E dX12_mean_29 4 rfl ?_
        refine y_iconst (v := 0) E dX12_mean_31 (by decide) ?_
        refine y_iconst (v := 1) E dX12_mean_32 (by decide) ?_
        refine y_calli E (y_runS E (rest := []) (kX12_in l w E.2.2.1 u6 a4 0 1 _ hv) (y_cwS 3 E.1.2.2.2.2 wm_477 wm_478 wm_479 wm_480 (by decide +kernel) (yRm_le (by decide) (by decide))) rfl rfl (Nat.le_of_ble_eq_true rfl) dX12_mean_33) (fun v8 u9 hk => ?_)
        clear hv
        have hv := hk
        clear hk
        refine y_if_ne (tgt := 43) E dX12_mean_36 (by decide) (fun c10 => ?_) (fun c10 => ?_)
        · replace hv := ite_f hv c10
          refine y_lconst (v := 0) E dX12_mean_43 (by decide) ?_
          refine y_lstore (lv' := [(5, .long 0), (0, .ref (w.1 0)), (1, .int a1), (2, .int a2), (3, .int a3), (4, .int a4)]) E dX12_mean_44 (by decide) rfl ?_
          refine y_iconst (v := 0) E dX12_mean_46 (by decide) ?_
          refine y_istore (lv' := [(7, .int 0), (5, .long 0), (0, .ref (w.1 0)), (1, .int a1), (2, .int a2), (3, .int a3), (4, .int a4)]) E dX12_mean_47 (by decide) rfl ?_
          refine y_lv (lv' := [(0, .ref (w.1 0)), (1, .int a1), (2, .int a2), (3, .int a3), (4, .int a4), (5, .long 0), (7, .int 0)]) [2, 3, 4, 5, 6, 1, 0] rfl ?_
          obtain ⟨n0, hv⟩ := hv
          exact hL49 n0 u9 a1 a2 a3 a4 0 0 hv
        · replace hv := ite_t hv c10
          refine y_ldc2 (v := (-4611686018427387904)) E wm_643 dX12_mean_39 ?_
          exact y_lret E dX12_mean_42 hv
theorem dX12_image_0 : decode cX12_image 0 = .ok (.aload_n 0, 1) := by decide +kernel
theorem dX12_image_1 : decode cX12_image 1 = .ok (.iconst 1, 1) := by decide +kernel
theorem dX12_image_2 : decode cX12_image 2 = .ok (.putfield 264, 3) := by decide +kernel
theorem dX12_image_5 : decode cX12_image 5 = .ok (.aload_n 0, 1) := by decide +kernel
theorem dX12_image_6 : decode cX12_image 6 = .ok (.aload_n 0, 1) := by decide +kernel
theorem dX12_image_7 : decode cX12_image 7 = .ok (.getfield 87, 3) := by decide +kernel
theorem dX12_image_10 : decode cX12_image 10 = .ok (.putfield 268, 3) := by decide +kernel
theorem dX12_image_13 : decode cX12_image 13 = .ok (.aload_n 0, 1) := by decide +kernel
theorem dX12_image_14 : decode cX12_image 14 = .ok (.aload_n 0, 1) := by decide +kernel
theorem dX12_image_15 : decode cX12_image 15 = .ok (.getfield 99, 3) := by decide +kernel
theorem dX12_image_18 : decode cX12_image 18 = .ok (.putfield 271, 3) := by decide +kernel
theorem dX12_image_21 : decode cX12_image 21 = .ok (.iconst 0, 1) := by decide +kernel
theorem dX12_image_22 : decode cX12_image 22 = .ok (.istore_n 1, 1) := by decide +kernel
theorem dX12_image_23 : decode cX12_image 23 = .ok (.iload_n 1, 1) := by decide +kernel
theorem dX12_image_24 : decode cX12_image 24 = .ok (.iconst 3, 1) := by decide +kernel
theorem dX12_image_25 : decode cX12_image 25 = .ok (.if_icmp .ge 21, 3) := by decide +kernel
theorem dX12_image_28 : decode cX12_image 28 = .ok (.aload_n 0, 1) := by decide +kernel
theorem dX12_image_29 : decode cX12_image 29 = .ok (.getfield 34, 3) := by decide +kernel
theorem dX12_image_32 : decode cX12_image 32 = .ok (.iload_n 1, 1) := by decide +kernel
theorem dX12_image_33 : decode cX12_image 33 = .ok (.aload_n 0, 1) := by decide +kernel
theorem dX12_image_34 : decode cX12_image 34 = .ok (.getfield 7, 3) := by decide +kernel
theorem dX12_image_37 : decode cX12_image 37 = .ok (.iload_n 1, 1) := by decide +kernel
theorem dX12_image_38 : decode cX12_image 38 = .ok (.iaload, 1) := by decide +kernel
theorem dX12_image_39 : decode cX12_image 39 = .ok (.iastore, 1) := by decide +kernel
theorem dX12_image_40 : decode cX12_image 40 = .ok (.iinc 1 1, 3) := by decide +kernel
theorem dX12_image_43 : decode cX12_image 43 = .ok (.goto (-20), 3) := by decide +kernel
theorem dX12_image_46 : decode cX12_image 46 = .ok (.aload_n 0, 1) := by decide +kernel
theorem dX12_image_47 : decode cX12_image 47 = .ok (.getfield 34, 3) := by decide +kernel
theorem dX12_image_50 : decode cX12_image 50 = .ok (.iconst 3, 1) := by decide +kernel
theorem dX12_image_51 : decode cX12_image 51 = .ok (.aload_n 0, 1) := by decide +kernel
theorem dX12_image_52 : decode cX12_image 52 = .ok (.getfield 93, 3) := by decide +kernel
theorem dX12_image_55 : decode cX12_image 55 = .ok (.iastore, 1) := by decide +kernel
theorem dX12_image_56 : decode cX12_image 56 = .ok (.iconst 0, 1) := by decide +kernel
theorem dX12_image_57 : decode cX12_image 57 = .ok (.istore_n 1, 1) := by decide +kernel
theorem dX12_image_58 : decode cX12_image 58 = .ok (.iload_n 1, 1) := by decide +kernel
theorem dX12_image_59 : decode cX12_image 59 = .ok (.iconst 5, 1) := by decide +kernel
theorem dX12_image_60 : decode cX12_image 60 = .ok (.if_icmp .ge 38, 3) := by decide +kernel
theorem dX12_image_63 : decode cX12_image 63 = .ok (.aload_n 0, 1) := by decide +kernel
theorem dX12_image_64 : decode cX12_image 64 = .ok (.getfield 34, 3) := by decide +kernel
theorem dX12_image_67 : decode cX12_image 67 = .ok (.iconst 4, 1) := by decide +kernel
theorem dX12_image_68 : decode cX12_image 68 = .ok (.iload_n 1, 1) := by decide +kernel
theorem dX12_image_69 : decode cX12_image 69 = .ok (.iadd, 1) := by decide +kernel
theorem dX12_image_70 : decode cX12_image 70 = .ok (.aload_n 0, 1) := by decide +kernel
theorem dX12_image_71 : decode cX12_image 71 = .ok (.getfield 19, 3) := by decide +kernel
theorem dX12_image_74 : decode cX12_image 74 = .ok (.iload_n 1, 1) := by decide +kernel
theorem dX12_image_75 : decode cX12_image 75 = .ok (.iaload, 1) := by decide +kernel
theorem dX12_image_76 : decode cX12_image 76 = .ok (.iastore, 1) := by decide +kernel
theorem dX12_image_77 : decode cX12_image 77 = .ok (.aload_n 0, 1) := by decide +kernel
theorem dX12_image_78 : decode cX12_image 78 = .ok (.getfield 34, 3) := by decide +kernel
theorem dX12_image_81 : decode cX12_image 81 = .ok (.bipush 9, 2) := by decide +kernel
theorem dX12_image_83 : decode cX12_image 83 = .ok (.iload_n 1, 1) := by decide +kernel
theorem dX12_image_84 : decode cX12_image 84 = .ok (.iadd, 1) := by decide +kernel
theorem dX12_image_85 : decode cX12_image 85 = .ok (.aload_n 0, 1) := by decide +kernel
theorem dX12_image_86 : decode cX12_image 86 = .ok (.getfield 22, 3) := by decide +kernel
theorem dX12_image_89 : decode cX12_image 89 = .ok (.iload_n 1, 1) := by decide +kernel
theorem dX12_image_90 : decode cX12_image 90 = .ok (.iaload, 1) := by decide +kernel
theorem dX12_image_91 : decode cX12_image 91 = .ok (.iastore, 1) := by decide +kernel
theorem dX12_image_92 : decode cX12_image 92 = .ok (.iinc 1 1, 3) := by decide +kernel
theorem dX12_image_95 : decode cX12_image 95 = .ok (.goto (-37), 3) := by decide +kernel
theorem dX12_image_98 : decode cX12_image 98 = .ok (.aload_n 0, 1) := by decide +kernel
theorem dX12_image_99 : decode cX12_image 99 = .ok (.getfield 87, 3) := by decide +kernel
theorem dX12_image_102 : decode cX12_image 102 = .ok (.ireturn, 1) := by decide +kernel
set_option maxRecDepth 100000 in
set_option maxHeartbeats 4000000 in
theorem kX12_image (l : Launch) (w : wT) (hw : yOk w 20) (σ : Hp)  (K : Int32 → Hp → Prop) (hv : VX12_image K σ ) : yMet l w mcf 20 yX12_image cX12_image 2 (some .int) 1 [.ref (w.1 0)] σ (yQi w mcf 20 K) := by
  unfold VX12_image at hv
  refine y_start (lv0 := [(0, .ref (w.1 0))]) (by decide +kernel) (own := RX12) rfl hw (Nat.le_of_ble_eq_true rfl) rfl (fun p e s m below meth c A E => ?_)
  have hL58 : ∀ (n58 : Nat) (σ : Hp) (l1 : Int32), VX12_image_L58 K n58 σ l1 → YY p l e (yRm 1) s m [.ref (w.1 0)].toArray below meth c w mcf 20 A (MQ below (yQi w mcf 20 K A) [.ref (w.1 0)].toArray s 0 0 A) 2 σ 58 [(0, .ref (w.1 0)), (1, .int l1)] [] := by
    intro n58
    induction n58 with
    | zero => exact fun _ _ hv => (by unfold VX12_image_L58 at hv; exact hv.elim)
    | succ n58 ih58 =>
      intro σ l1 hv
      unfold VX12_image_L58 at hv
      refine y_iload_n E dX12_image_58 1 rfl ?_
      refine y_iconst (v := 5) E dX12_image_59 (by decide) ?_
      refine y_icmp_ge (tgt := 98) E dX12_image_60 (by decide) (fun c8 => ?_) (fun c8 => ?_)
      · replace hv := ite_t hv c8
        refine y_aload_n E dX12_image_98 0 rfl ?_
        refine gf_X12_2 E (by decide) (by decide) wm_489 dX12_image_99 ?_
        exact y_iret E dX12_image_102 hv
      · replace hv := ite_f hv c8
        refine y_aload_n E dX12_image_63 0 rfl ?_
        refine gf_X12_16 E (by decide) (by decide) wm_680 dX12_image_64 ?_
        refine y_iconst (v := 4) E dX12_image_67 (by decide) ?_
        refine y_iload_n E dX12_image_68 1 rfl ?_
        refine y_iadd E dX12_image_69 ?_
        refine y_aload_n E dX12_image_70 0 rfl ?_
        refine gf_X12_5 E (by decide) (by decide) wm_490 dX12_image_71 ?_
        refine y_iload_n E dX12_image_74 1 rfl ?_
        obtain ⟨hi, hv⟩ := hv
        refine y_iald E (Nat.lt_of_lt_of_le (show 4 < 5 by decide) (by decide)) (mc_m_cellOf (by decide) (by decide)) hi dX12_image_75 ?_
        obtain ⟨hi, hv⟩ := hv
        refine y_iast E (Nat.lt_of_lt_of_le (show 9 < 10 by decide) (by decide)) (fun _ => mc_m_imageRows (by decide) (by decide)) hi dX12_image_76 ?_
        refine y_nmH (fun u9 hu9 => ?_)
        replace hv := hv u9 hu9
        refine y_aload_n E dX12_image_77 0 rfl ?_
        refine gf_X12_16 E (by decide) (by decide) wm_680 dX12_image_78 ?_
        refine y_bipush (v := 9) E dX12_image_81 (by decide) ?_
        refine y_iload_n E dX12_image_83 1 rfl ?_
        refine y_iadd E dX12_image_84 ?_
        refine y_aload_n E dX12_image_85 0 rfl ?_
        refine gf_X12_6 E (by decide) (by decide) wm_573 dX12_image_86 ?_
        refine y_iload_n E dX12_image_89 1 rfl ?_
        obtain ⟨hi, hv⟩ := hv
        refine y_iald E (Nat.lt_of_lt_of_le (show 5 < 6 by decide) (by decide)) (mc_m_wayOf (by decide) (by decide)) hi dX12_image_90 ?_
        obtain ⟨hi, hv⟩ := hv
        refine y_iast E (Nat.lt_of_lt_of_le (show 9 < 10 by decide) (by decide)) (fun _ => mc_m_imageRows (by decide) (by decide)) hi dX12_image_91 ?_
        refine y_nmH (fun u10 hu10 => ?_)
        replace hv := hv u10 hu10
        obtain ⟨x11, hx11⟩ : ∃ z : Int32, z = l1 + 1 := ⟨_, rfl⟩
        replace hv := hv x11 hx11
        refine y_iinc (v := x11) (lv' := [(1, .int x11), (0, .ref (w.1 0))]) E dX12_image_92 1 rfl (by rw [hx11]; rfl) (by decide) rfl ?_
        refine y_goto (tgt := 58) E dX12_image_95 (by decide) ?_
        refine y_lv (lv' := [(0, .ref (w.1 0)), (1, .int x11)]) [1, 0] rfl ?_
        exact ih58 u10 x11 hv
  have hL23 : ∀ (n23 : Nat) (σ : Hp) (l1 : Int32), VX12_image_L23 K n23 σ l1 → YY p l e (yRm 1) s m [.ref (w.1 0)].toArray below meth c w mcf 20 A (MQ below (yQi w mcf 20 K A) [.ref (w.1 0)].toArray s 0 0 A) 2 σ 23 [(0, .ref (w.1 0)), (1, .int l1)] [] := by
    intro n23
    induction n23 with
    | zero => exact fun _ _ hv => (by unfold VX12_image_L23 at hv; exact hv.elim)
    | succ n23 ih23 =>
      intro σ l1 hv
      unfold VX12_image_L23 at hv
      refine y_iload_n E dX12_image_23 1 rfl ?_
      refine y_iconst (v := 3) E dX12_image_24 (by decide) ?_
      refine y_icmp_ge (tgt := 46) E dX12_image_25 (by decide) (fun c4 => ?_) (fun c4 => ?_)
      · replace hv := ite_t hv c4
        refine y_aload_n E dX12_image_46 0 rfl ?_
        refine gf_X12_16 E (by decide) (by decide) wm_680 dX12_image_47 ?_
        refine y_iconst (v := 3) E dX12_image_50 (by decide) ?_
        refine y_aload_n E dX12_image_51 0 rfl ?_
        refine gf_X12_1 E (by decide) (by decide) wm_495 dX12_image_52 ?_
        refine y_iastc (j := 3) E (Nat.lt_of_lt_of_le (show 9 < 10 by decide) (by decide)) (fun _ => mc_m_imageRows (by decide) (by decide)) (by decide) (by decide) dX12_image_55 ?_
        refine y_nmH (fun u5 hu5 => ?_)
        replace hv := hv u5 hu5
        refine y_iconst (v := 0) E dX12_image_56 (by decide) ?_
        refine y_istore_n (lv' := [(1, .int 0), (0, .ref (w.1 0))]) E dX12_image_57 (by decide) rfl ?_
        refine y_lv (lv' := [(0, .ref (w.1 0)), (1, .int 0)]) [1, 0] rfl ?_
        obtain ⟨n0, hv⟩ := hv
        exact hL58 n0 u5 0 hv
      · replace hv := ite_f hv c4
        refine y_aload_n E dX12_image_28 0 rfl ?_
        refine gf_X12_16 E (by decide) (by decide) wm_680 dX12_image_29 ?_
        refine y_iload_n E dX12_image_32 1 rfl ?_
        refine y_aload_n E dX12_image_33 0 rfl ?_
        refine gf_X12_0 E (by decide) (by decide) wm_481 dX12_image_34 ?_
        refine y_iload_n E dX12_image_37 1 rfl ?_
        obtain ⟨hi, hv⟩ := hv
        refine y_iald E (Nat.lt_of_lt_of_le (show 1 < 2 by decide) (by decide)) (mc_m_sets (by decide) (by decide)) hi dX12_image_38 ?_
        obtain ⟨hi, hv⟩ := hv
        refine y_iast E (Nat.lt_of_lt_of_le (show 9 < 10 by decide) (by decide)) (fun _ => mc_m_imageRows (by decide) (by decide)) hi dX12_image_39 ?_
        refine y_nmH (fun u6 hu6 => ?_)
        replace hv := hv u6 hu6
        obtain ⟨x7, hx7⟩ : ∃ z : Int32, z = l1 + 1 := ⟨_, rfl⟩
        replace hv := hv x7 hx7
        refine y_iinc (v := x7) (lv' := [(1, .int x7), (0, .ref (w.1 0))]) E dX12_image_40 1 rfl (by rw [hx7]; rfl) (by decide) rfl ?_
        refine y_goto (tgt := 23) E dX12_image_43 (by decide) ?_
        refine y_lv (lv' := [(0, .ref (w.1 0)), (1, .int x7)]) [1, 0] rfl ?_
        exact ih23 u6 x7 hv
  refine y_aload_n E dX12_image_0 0 rfl ?_
  refine y_iconst (v := 1) E dX12_image_1 (by decide) ?_
  refine pf_X12_13 E (by decide) (by decide) (by decide) (by decide) wm_677 dX12_image_2 ?_
  refine y_nmH (fun u1 hu1 => ?_)
  replace hv := hv u1 hu1
  refine y_aload_n E dX12_image_5 0 rfl ?_
  refine y_aload_n E dX12_image_6 0 rfl ?_
  refine gf_X12_2 E (by decide) (by decide) wm_489 dX12_image_7 ?_
  refine pf_X12_14 E (by decide) (by decide) wm_678 dX12_image_10 ?_
  refine y_nmH (fun u2 hu2 => ?_)
  replace hv := hv u2 hu2
  refine y_aload_n E dX12_image_13 0 rfl ?_
  refine y_aload_n E dX12_image_14 0 rfl ?_
  refine gf_X12_12 E (by decide) (by decide) wm_497 dX12_image_15 ?_
  refine pf_X12_15 E (by decide) (by decide) wm_679 dX12_image_18 ?_
  refine y_nmH (fun u3 hu3 => ?_)
  replace hv := hv u3 hu3
  refine y_iconst (v := 0) E dX12_image_21 (by decide) ?_
  refine y_istore_n (lv' := [(1, .int 0), (0, .ref (w.1 0))]) E dX12_image_22 (by decide) rfl ?_
  refine y_lv (lv' := [(0, .ref (w.1 0)), (1, .int 0)]) [1, 0] rfl ?_
  obtain ⟨n0, hv⟩ := hv
  exact hL23 n0 u3 0 hv
