theorem dX4_readOr_0 : decode cX4_readOr 0 = .ok (.aload_n 0, 1) := by decide +kernel
theorem dX4_readOr_1 : decode cX4_readOr 1 = .ok (.iload_n 1, 1) := by decide +kernel
theorem dX4_readOr_2 : decode cX4_readOr 2 = .ok (.invokevirtual 50, 3) := by decide +kernel
theorem dX4_readOr_5 : decode cX4_readOr 5 = .ok (.iconst 0, 1) := by decide +kernel
theorem dX4_readOr_6 : decode cX4_readOr 6 = .ok (.istore_n 2, 1) := by decide +kernel
theorem dX4_readOr_7 : decode cX4_readOr 7 = .ok (.iload_n 2, 1) := by decide +kernel
theorem dX4_readOr_8 : decode cX4_readOr 8 = .ok (.sipush 160, 3) := by decide +kernel
theorem dX4_readOr_11 : decode cX4_readOr 11 = .ok (.if_icmp .ge 36, 3) := by decide +kernel
theorem dX4_readOr_14 : decode cX4_readOr 14 = .ok (.aload_n 0, 1) := by decide +kernel
theorem dX4_readOr_15 : decode cX4_readOr 15 = .ok (.getfield 53, 3) := by decide +kernel
theorem dX4_readOr_18 : decode cX4_readOr 18 = .ok (.bipush (-15), 2) := by decide +kernel
theorem dX4_readOr_20 : decode cX4_readOr 20 = .ok (.if_icmp .ne 27, 3) := by decide +kernel
theorem dX4_readOr_23 : decode cX4_readOr 23 = .ok (.aload_n 0, 1) := by decide +kernel
theorem dX4_readOr_24 : decode cX4_readOr 24 = .ok (.invokevirtual 34, 3) := by decide +kernel
theorem dX4_readOr_27 : decode cX4_readOr 27 = .ok (.aload_n 0, 1) := by decide +kernel
theorem dX4_readOr_28 : decode cX4_readOr 28 = .ok (.iload_n 1, 1) := by decide +kernel
theorem dX4_readOr_29 : decode cX4_readOr 29 = .ok (.invokevirtual 50, 3) := by decide +kernel
theorem dX4_readOr_32 : decode cX4_readOr 32 = .ok (.aload_n 0, 1) := by decide +kernel
theorem dX4_readOr_33 : decode cX4_readOr 33 = .ok (.getfield 19, 3) := by decide +kernel
theorem dX4_readOr_36 : decode cX4_readOr 36 = .ok (.bipush (-15), 2) := by decide +kernel
theorem dX4_readOr_38 : decode cX4_readOr 38 = .ok (.invokevirtual 56, 3) := by decide +kernel
theorem dX4_readOr_41 : decode cX4_readOr 41 = .ok (.iinc 2 1, 3) := by decide +kernel
theorem dX4_readOr_44 : decode cX4_readOr 44 = .ok (.goto (-37), 3) := by decide +kernel
theorem dX4_readOr_47 : decode cX4_readOr 47 = .ok (.return_, 1) := by decide +kernel
set_option maxRecDepth 100000 in
set_option maxHeartbeats 4000000 in
theorem kX4_readOr (l : Launch) (w : wT) (hw : yOk w 55) (f : Nat) (hF : (∀ (K : Hp → Prop) (σ : Hp) (a1 : Int32), VREC f 0 K σ a1 → yMet l w xcf 55 yX4_readOr cX4_readOr 3 none (9 + f) [.ref (w.1 38), .int a1] σ (yQv w xcf 55 K)) ∧ (∀ (K : Hp → Prop) (σ : Hp) (a1 : Int32), VREC f 1 K σ a1 → yMet l w xcf 55 yX4_readAnd cX4_readAnd 3 none (9 + f) [.ref (w.1 38), .int a1] σ (yQv w xcf 55 K)) ∧ (∀ (K : Hp → Prop) (σ : Hp) (a1 : Int32), VREC f 2 K σ a1 → yMet l w xcf 55 yX4_readNot cX4_readNot 3 none (9 + f) [.ref (w.1 38), .int a1] σ (yQv w xcf 55 K)) ∧ (∀ (K : Hp → Prop) (σ : Hp) (a1 : Int32), VREC f 3 K σ a1 → yMet l w xcf 55 yX4_readSum cX4_readSum 4 none (9 + f) [.ref (w.1 38), .int a1] σ (yQv w xcf 55 K)) ∧ (∀ (K : Hp → Prop) (σ : Hp) (a1 : Int32), VREC f 4 K σ a1 → yMet l w xcf 55 yX4_readTerm cX4_readTerm 3 none (9 + f) [.ref (w.1 38), .int a1] σ (yQv w xcf 55 K)) ∧ (∀ (K : Hp → Prop) (σ : Hp) (a1 : Int32), VREC f 5 K σ a1 → yMet l w xcf 55 yX4_readOne cX4_readOne 2 none (9 + f) [.ref (w.1 38), .int a1] σ (yQv w xcf 55 K))) : ∀ (K : Hp → Prop) (σ : Hp) (a1 : Int32), BX4_readOr (VREC f) K σ a1 → yMet l w xcf 55 yX4_readOr cX4_readOr 3 none (9 + f + 1) [.ref (w.1 38), .int a1] σ (yQv w xcf 55 K) := by
  intro K σ a1 hv
  unfold BX4_readOr at hv
  refine y_start (lv0 := [(0, .ref (w.1 38)), (1, .int a1)]) (by decide +kernel) (own := RX4) rfl hw (Nat.le_of_ble_eq_true rfl) rfl (fun p e s m below meth c A E => ?_)
  have hL7 : ∀ (n7 : Nat) (σ : Hp) (l1 : Int32) (l2 : Int32), VX4_readOr_L7 (VREC f) K n7 σ l1 l2 → YY p l e (yRm (9 + f + 1)) s m [.ref (w.1 38), .int a1].toArray below meth c w xcf 55 A (MQ below (yQv w xcf 55 K A) [.ref (w.1 38), .int a1].toArray s 0 0 A) 3 σ 7 [(0, .ref (w.1 38)), (1, .int l1), (2, .int l2)] [] := by
    intro n7
    induction n7 with
    | zero => exact fun _ _ _ hv => (by unfold VX4_readOr_L7 at hv; exact hv.elim)
    | succ n7 ih7 =>
      intro σ l1 l2 hv
      unfold VX4_readOr_L7 at hv
      refine y_iload_n E dX4_readOr_7 2 rfl ?_
      refine y_sipush (v := 160) E dX4_readOr_8 (by decide) ?_
      refine y_icmp_ge (tgt := 47) E dX4_readOr_11 (by decide) (fun c3 => ?_) (fun c3 => ?_)
      · replace hv := ite_t hv c3
        exact y_vret E dX4_readOr_47 hv
      · replace hv := ite_f hv c3
        refine y_aload_n E dX4_readOr_14 0 rfl ?_
        refine gf_X4_2 E (by decide) (by decide) wm_180 dX4_readOr_15 ?_
        refine y_bipush (v := (-15)) E dX4_readOr_18 (by decide) ?_
        refine y_icmp_ne (tgt := 47) E dX4_readOr_20 (by decide) (fun c4 => ?_) (fun c4 => ?_)
        · replace hv := ite_f hv c4
          exact y_vret E dX4_readOr_47 hv
        · replace hv := ite_t hv c4
          refine y_aload_n E dX4_readOr_23 0 rfl ?_
          refine y_callv E (y_runV E (rest := []) (kX4_goOn l w E.2.2.1 σ _ hv) (y_cwV 0 E.1.2.2.2.2 wm_152 wm_162 wm_163 wm_157 wm_164 (by decide +kernel) (yRm_le (by omega) (by decide))) (Nat.lt_of_lt_of_le (show 38 < 39 by decide) (by decide)) (xc_X4 (by decide) (by decide)) rfl rfl rfl (Nat.le_of_ble_eq_true rfl) dX4_readOr_24) (fun u6 hk => ?_)
          clear hv
          have hv := hk
          clear hk
          refine y_aload_n E dX4_readOr_27 0 rfl ?_
          refine y_iload_n E dX4_readOr_28 1 rfl ?_
          refine y_callv E (y_runV E (rest := []) (hF.2.1 _ _ l1 hv) (y_cwV 1 E.1.2.2.2.2 wm_176 wm_177 wm_178 wm_157 wm_179 (by decide +kernel) (yRm_le (by omega) (by decide))) (Nat.lt_of_lt_of_le (show 38 < 39 by decide) (by decide)) (xc_X4 (by decide) (by decide)) rfl rfl rfl (Nat.le_of_ble_eq_true rfl) dX4_readOr_29) (fun u8 hk => ?_)
          clear hv
          have hv := hk
          clear hk
          refine y_aload_n E dX4_readOr_32 0 rfl ?_
          obtain ⟨hnn, hv⟩ := hv
          refine gf_X4_6 E (by decide) (by decide) hnn wm_148 dX4_readOr_33 ?_
          refine y_nmr (fun x9 hx9 => ?_)
          obtain ⟨hgx9, hv⟩ := hv x9 hx9
          refine y_bipush (v := (-15)) E dX4_readOr_36 (by decide) ?_
          refine y_callv E (y_runV E (rest := []) (kX9_add l w E.2.2.1 u8 x9 (-15) _ hv) (y_cwV 1 E.1.2.2.2.2 wm_181 wm_182 wm_183 wm_113 wm_184 (by decide +kernel) (yRm_le (by omega) (by decide))) (Nat.lt_of_lt_of_le hgx9.2 (by decide)) (xc_X9 hgx9.1 hgx9.2) rfl rfl rfl (Nat.le_of_ble_eq_true rfl) dX4_readOr_38) (fun u11 hk => ?_)
          clear hv
          have hv := hk
          clear hk
          obtain ⟨x12, hx12⟩ : ∃ z : Int32, z = l2 + 1 := ⟨_, rfl⟩
          replace hv := hv x12 hx12
          refine y_iinc (v := x12) (lv' := [(2, .int x12), (0, .ref (w.1 38)), (1, .int l1)]) E dX4_readOr_41 2 rfl (by rw [hx12]; rfl) (by decide) rfl ?_
          refine y_goto (tgt := 7) E dX4_readOr_44 (by decide) ?_
          refine y_lv (lv' := [(0, .ref (w.1 38)), (1, .int l1), (2, .int x12)]) [1, 2, 0] rfl ?_
          exact ih7 u11 l1 x12 hv
  refine y_aload_n E dX4_readOr_0 0 rfl ?_
  refine y_iload_n E dX4_readOr_1 1 rfl ?_
  refine y_callv E (y_runV E (rest := []) (hF.2.1 _ _ a1 hv) (y_cwV 1 E.1.2.2.2.2 wm_176 wm_177 wm_178 wm_157 wm_179 (by decide +kernel) (yRm_le (by omega) (by decide))) (Nat.lt_of_lt_of_le (show 38 < 39 by decide) (by decide)) (xc_X4 (by decide) (by decide)) rfl rfl rfl (Nat.le_of_ble_eq_true rfl) dX4_readOr_2) (fun u2 hk => ?_)
  clear hv
  have hv := hk
  clear hk
  refine y_iconst (v := 0) E dX4_readOr_5 (by decide) ?_
  refine y_istore_n (lv' := [(2, .int 0), (0, .ref (w.1 38)), (1, .int a1)]) E dX4_readOr_6 (by decide) rfl ?_
  refine y_lv (lv' := [(0, .ref (w.1 38)), (1, .int a1), (2, .int 0)]) [1, 2, 0] rfl ?_
  obtain ⟨n0, hv⟩ := hv
  exact hL7 n0 u2 a1 0 hv
theorem dX4_readAnd_0 : decode cX4_readAnd 0 = .ok (.aload_n 0, 1) := by decide +kernel
theorem dX4_readAnd_1 : decode cX4_readAnd 1 = .ok (.iload_n 1, 1) := by decide +kernel
theorem dX4_readAnd_2 : decode cX4_readAnd 2 = .ok (.invokevirtual 59, 3) := by decide +kernel
theorem dX4_readAnd_5 : decode cX4_readAnd 5 = .ok (.iconst 0, 1) := by decide +kernel
theorem dX4_readAnd_6 : decode cX4_readAnd 6 = .ok (.istore_n 2, 1) := by decide +kernel
theorem dX4_readAnd_7 : decode cX4_readAnd 7 = .ok (.iload_n 2, 1) := by decide +kernel
theorem dX4_readAnd_8 : decode cX4_readAnd 8 = .ok (.sipush 160, 3) := by decide +kernel
theorem dX4_readAnd_11 : decode cX4_readAnd 11 = .ok (.if_icmp .ge 36, 3) := by decide +kernel
theorem dX4_readAnd_14 : decode cX4_readAnd 14 = .ok (.aload_n 0, 1) := by decide +kernel
theorem dX4_readAnd_15 : decode cX4_readAnd 15 = .ok (.getfield 53, 3) := by decide +kernel
theorem dX4_readAnd_18 : decode cX4_readAnd 18 = .ok (.bipush (-14), 2) := by decide +kernel
theorem dX4_readAnd_20 : decode cX4_readAnd 20 = .ok (.if_icmp .ne 27, 3) := by decide +kernel
theorem dX4_readAnd_23 : decode cX4_readAnd 23 = .ok (.aload_n 0, 1) := by decide +kernel
theorem dX4_readAnd_24 : decode cX4_readAnd 24 = .ok (.invokevirtual 34, 3) := by decide +kernel
theorem dX4_readAnd_27 : decode cX4_readAnd 27 = .ok (.aload_n 0, 1) := by decide +kernel
theorem dX4_readAnd_28 : decode cX4_readAnd 28 = .ok (.iload_n 1, 1) := by decide +kernel
theorem dX4_readAnd_29 : decode cX4_readAnd 29 = .ok (.invokevirtual 59, 3) := by decide +kernel
theorem dX4_readAnd_32 : decode cX4_readAnd 32 = .ok (.aload_n 0, 1) := by decide +kernel
theorem dX4_readAnd_33 : decode cX4_readAnd 33 = .ok (.getfield 19, 3) := by decide +kernel
theorem dX4_readAnd_36 : decode cX4_readAnd 36 = .ok (.bipush (-14), 2) := by decide +kernel
theorem dX4_readAnd_38 : decode cX4_readAnd 38 = .ok (.invokevirtual 56, 3) := by decide +kernel
theorem dX4_readAnd_41 : decode cX4_readAnd 41 = .ok (.iinc 2 1, 3) := by decide +kernel
theorem dX4_readAnd_44 : decode cX4_readAnd 44 = .ok (.goto (-37), 3) := by decide +kernel
theorem dX4_readAnd_47 : decode cX4_readAnd 47 = .ok (.return_, 1) := by decide +kernel
set_option maxRecDepth 100000 in
set_option maxHeartbeats 4000000 in
theorem kX4_readAnd (l : Launch) (w : wT) (hw : yOk w 55) (f : Nat) (hF : (∀ (K : Hp → Prop) (σ : Hp) (a1 : Int32), VREC f 0 K σ a1 → yMet l w xcf 55 yX4_readOr cX4_readOr 3 none (9 + f) [.ref (w.1 38), .int a1] σ (yQv w xcf 55 K)) ∧ (∀ (K : Hp → Prop) (σ : Hp) (a1 : Int32), VREC f 1 K σ a1 → yMet l w xcf 55 yX4_readAnd cX4_readAnd 3 none (9 + f) [.ref (w.1 38), .int a1] σ (yQv w xcf 55 K)) ∧ (∀ (K : Hp → Prop) (σ : Hp) (a1 : Int32), VREC f 2 K σ a1 → yMet l w xcf 55 yX4_readNot cX4_readNot 3 none (9 + f) [.ref (w.1 38), .int a1] σ (yQv w xcf 55 K)) ∧ (∀ (K : Hp → Prop) (σ : Hp) (a1 : Int32), VREC f 3 K σ a1 → yMet l w xcf 55 yX4_readSum cX4_readSum 4 none (9 + f) [.ref (w.1 38), .int a1] σ (yQv w xcf 55 K)) ∧ (∀ (K : Hp → Prop) (σ : Hp) (a1 : Int32), VREC f 4 K σ a1 → yMet l w xcf 55 yX4_readTerm cX4_readTerm 3 none (9 + f) [.ref (w.1 38), .int a1] σ (yQv w xcf 55 K)) ∧ (∀ (K : Hp → Prop) (σ : Hp) (a1 : Int32), VREC f 5 K σ a1 → yMet l w xcf 55 yX4_readOne cX4_readOne 2 none (9 + f) [.ref (w.1 38), .int a1] σ (yQv w xcf 55 K))) : ∀ (K : Hp → Prop) (σ : Hp) (a1 : Int32), BX4_readAnd (VREC f) K σ a1 → yMet l w xcf 55 yX4_readAnd cX4_readAnd 3 none (9 + f + 1) [.ref (w.1 38), .int a1] σ (yQv w xcf 55 K) := by
  intro K σ a1 hv
  unfold BX4_readAnd at hv
  refine y_start (lv0 := [(0, .ref (w.1 38)), (1, .int a1)]) (by decide +kernel) (own := RX4) rfl hw (Nat.le_of_ble_eq_true rfl) rfl (fun p e s m below meth c A E => ?_)
  have hL7 : ∀ (n7 : Nat) (σ : Hp) (l1 : Int32) (l2 : Int32), VX4_readAnd_L7 (VREC f) K n7 σ l1 l2 → YY p l e (yRm (9 + f + 1)) s m [.ref (w.1 38), .int a1].toArray below meth c w xcf 55 A (MQ below (yQv w xcf 55 K A) [.ref (w.1 38), .int a1].toArray s 0 0 A) 3 σ 7 [(0, .ref (w.1 38)), (1, .int l1), (2, .int l2)] [] := by
    intro n7
    induction n7 with
    | zero => exact fun _ _ _ hv => (by unfold VX4_readAnd_L7 at hv; exact hv.elim)
    | succ n7 ih7 =>
      intro σ l1 l2 hv
      unfold VX4_readAnd_L7 at hv
      refine y_iload_n E dX4_readAnd_7 2 rfl ?_
      refine y_sipush (v := 160) E dX4_readAnd_8 (by decide) ?_
      refine y_icmp_ge (tgt := 47) E dX4_readAnd_11 (by decide) (fun c3 => ?_) (fun c3 => ?_)
      · replace hv := ite_t hv c3
        exact y_vret E dX4_readAnd_47 hv
      · replace hv := ite_f hv c3
        refine y_aload_n E dX4_readAnd_14 0 rfl ?_
        refine gf_X4_2 E (by decide) (by decide) wm_180 dX4_readAnd_15 ?_
        refine y_bipush (v := (-14)) E dX4_readAnd_18 (by decide) ?_
        refine y_icmp_ne (tgt := 47) E dX4_readAnd_20 (by decide) (fun c4 => ?_) (fun c4 => ?_)
        · replace hv := ite_f hv c4
          exact y_vret E dX4_readAnd_47 hv
        · replace hv := ite_t hv c4
          refine y_aload_n E dX4_readAnd_23 0 rfl ?_
          refine y_callv E (y_runV E (rest := []) (kX4_goOn l w E.2.2.1 σ _ hv) (y_cwV 0 E.1.2.2.2.2 wm_152 wm_162 wm_163 wm_157 wm_164 (by decide +kernel) (yRm_le (by omega) (by decide))) (Nat.lt_of_lt_of_le (show 38 < 39 by decide) (by decide)) (xc_X4 (by decide) (by decide)) rfl rfl rfl (Nat.le_of_ble_eq_true rfl) dX4_readAnd_24) (fun u6 hk => ?_)
          clear hv
          have hv := hk
          clear hk
          refine y_aload_n E dX4_readAnd_27 0 rfl ?_
          refine y_iload_n E dX4_readAnd_28 1 rfl ?_
          refine y_callv E (y_runV E (rest := []) (hF.2.2.1 _ _ l1 hv) (y_cwV 1 E.1.2.2.2.2 wm_185 wm_186 wm_187 wm_157 wm_188 (by decide +kernel) (yRm_le (by omega) (by decide))) (Nat.lt_of_lt_of_le (show 38 < 39 by decide) (by decide)) (xc_X4 (by decide) (by decide)) rfl rfl rfl (Nat.le_of_ble_eq_true rfl) dX4_readAnd_29) (fun u8 hk => ?_)
          clear hv
          have hv := hk
          clear hk
          refine y_aload_n E dX4_readAnd_32 0 rfl ?_
          obtain ⟨hnn, hv⟩ := hv
          refine gf_X4_6 E (by decide) (by decide) hnn wm_148 dX4_readAnd_33 ?_
          refine y_nmr (fun x9 hx9 => ?_)
          obtain ⟨hgx9, hv⟩ := hv x9 hx9
          refine y_bipush (v := (-14)) E dX4_readAnd_36 (by decide) ?_
          refine y_callv E (y_runV E (rest := []) (kX9_add l w E.2.2.1 u8 x9 (-14) _ hv) (y_cwV 1 E.1.2.2.2.2 wm_181 wm_182 wm_183 wm_113 wm_184 (by decide +kernel) (yRm_le (by omega) (by decide))) (Nat.lt_of_lt_of_le hgx9.2 (by decide)) (xc_X9 hgx9.1 hgx9.2) rfl rfl rfl (Nat.le_of_ble_eq_true rfl) dX4_readAnd_38) (fun u11 hk => ?_)
          clear hv
          have hv := hk
          clear hk
          obtain ⟨x12, hx12⟩ : ∃ z : Int32, z = l2 + 1 := ⟨_, rfl⟩
          replace hv := hv x12 hx12
          refine y_iinc (v := x12) (lv' := [(2, .int x12), (0, .ref (w.1 38)), (1, .int l1)]) E dX4_readAnd_41 2 rfl (by rw [hx12]; rfl) (by decide) rfl ?_
          refine y_goto (tgt := 7) E dX4_readAnd_44 (by decide) ?_
          refine y_lv (lv' := [(0, .ref (w.1 38)), (1, .int l1), (2, .int x12)]) [1, 2, 0] rfl ?_
          exact ih7 u11 l1 x12 hv
  refine y_aload_n E dX4_readAnd_0 0 rfl ?_
  refine y_iload_n E dX4_readAnd_1 1 rfl ?_
  refine y_callv E (y_runV E (rest := []) (hF.2.2.1 _ _ a1 hv) (y_cwV 1 E.1.2.2.2.2 wm_185 wm_186 wm_187 wm_157 wm_188 (by decide +kernel) (yRm_le (by omega) (by decide))) (Nat.lt_of_lt_of_le (show 38 < 39 by decide) (by decide)) (xc_X4 (by decide) (by decide)) rfl rfl rfl (Nat.le_of_ble_eq_true rfl) dX4_readAnd_2) (fun u2 hk => ?_)
  clear hv
  have hv := hk
  clear hk
  refine y_iconst (v := 0) E dX4_readAnd_5 (by decide) ?_
  refine y_istore_n (lv' := [(2, .int 0), (0, .ref (w.1 38)), (1, .int a1)]) E dX4_readAnd_6 (by decide) rfl ?_
  refine y_lv (lv' := [(0, .ref (w.1 38)), (1, .int a1), (2, .int 0)]) [1, 2, 0] rfl ?_
  obtain ⟨n0, hv⟩ := hv
  exact hL7 n0 u2 a1 0 hv
theorem dX4_readNot_0 : decode cX4_readNot 0 = .ok (.aload_n 0, 1) := by decide +kernel
theorem dX4_readNot_1 : decode cX4_readNot 1 = .ok (.getfield 53, 3) := by decide +kernel
theorem dX4_readNot_4 : decode cX4_readNot 4 = .ok (.bipush (-7), 2) := by decide +kernel
theorem dX4_readNot_6 : decode cX4_readNot 6 = .ok (.if_icmp .ne 29, 3) := by decide +kernel
theorem dX4_readNot_9 : decode cX4_readNot 9 = .ok (.iload_n 1, 1) := by decide +kernel
theorem dX4_readNot_10 : decode cX4_readNot 10 = .ok (.iconst 5, 1) := by decide +kernel
theorem dX4_readNot_11 : decode cX4_readNot 11 = .ok (.if_icmp .ge 24, 3) := by decide +kernel
theorem dX4_readNot_14 : decode cX4_readNot 14 = .ok (.aload_n 0, 1) := by decide +kernel
theorem dX4_readNot_15 : decode cX4_readNot 15 = .ok (.invokevirtual 34, 3) := by decide +kernel
theorem dX4_readNot_18 : decode cX4_readNot 18 = .ok (.aload_n 0, 1) := by decide +kernel
theorem dX4_readNot_19 : decode cX4_readNot 19 = .ok (.iload_n 1, 1) := by decide +kernel
theorem dX4_readNot_20 : decode cX4_readNot 20 = .ok (.iconst 1, 1) := by decide +kernel
theorem dX4_readNot_21 : decode cX4_readNot 21 = .ok (.iadd, 1) := by decide +kernel
theorem dX4_readNot_22 : decode cX4_readNot 22 = .ok (.invokevirtual 59, 3) := by decide +kernel
theorem dX4_readNot_25 : decode cX4_readNot 25 = .ok (.aload_n 0, 1) := by decide +kernel
theorem dX4_readNot_26 : decode cX4_readNot 26 = .ok (.getfield 19, 3) := by decide +kernel
theorem dX4_readNot_29 : decode cX4_readNot 29 = .ok (.bipush (-7), 2) := by decide +kernel
theorem dX4_readNot_31 : decode cX4_readNot 31 = .ok (.invokevirtual 56, 3) := by decide +kernel
theorem dX4_readNot_34 : decode cX4_readNot 34 = .ok (.return_, 1) := by decide +kernel
theorem dX4_readNot_35 : decode cX4_readNot 35 = .ok (.aload_n 0, 1) := by decide +kernel
theorem dX4_readNot_36 : decode cX4_readNot 36 = .ok (.iload_n 1, 1) := by decide +kernel
theorem dX4_readNot_37 : decode cX4_readNot 37 = .ok (.invokevirtual 62, 3) := by decide +kernel
theorem dX4_readNot_40 : decode cX4_readNot 40 = .ok (.aload_n 0, 1) := by decide +kernel
theorem dX4_readNot_41 : decode cX4_readNot 41 = .ok (.getfield 53, 3) := by decide +kernel
theorem dX4_readNot_44 : decode cX4_readNot 44 = .ok (.bipush (-12), 2) := by decide +kernel
theorem dX4_readNot_46 : decode cX4_readNot 46 = .ok (.if_icmp .eq 12, 3) := by decide +kernel
theorem dX4_readNot_49 : decode cX4_readNot 49 = .ok (.aload_n 0, 1) := by decide +kernel
theorem dX4_readNot_50 : decode cX4_readNot 50 = .ok (.getfield 53, 3) := by decide +kernel
theorem dX4_readNot_53 : decode cX4_readNot 53 = .ok (.bipush (-13), 2) := by decide +kernel
theorem dX4_readNot_55 : decode cX4_readNot 55 = .ok (.if_icmp .ne 25, 3) := by decide +kernel
theorem dX4_readNot_58 : decode cX4_readNot 58 = .ok (.aload_n 0, 1) := by decide +kernel
theorem dX4_readNot_59 : decode cX4_readNot 59 = .ok (.getfield 53, 3) := by decide +kernel
theorem dX4_readNot_62 : decode cX4_readNot 62 = .ok (.istore_n 2, 1) := by decide +kernel
theorem dX4_readNot_63 : decode cX4_readNot 63 = .ok (.aload_n 0, 1) := by decide +kernel
theorem dX4_readNot_64 : decode cX4_readNot 64 = .ok (.invokevirtual 34, 3) := by decide +kernel
theorem dX4_readNot_67 : decode cX4_readNot 67 = .ok (.aload_n 0, 1) := by decide +kernel
theorem dX4_readNot_68 : decode cX4_readNot 68 = .ok (.iload_n 1, 1) := by decide +kernel
theorem dX4_readNot_69 : decode cX4_readNot 69 = .ok (.invokevirtual 62, 3) := by decide +kernel
theorem dX4_readNot_72 : decode cX4_readNot 72 = .ok (.aload_n 0, 1) := by decide +kernel
theorem dX4_readNot_73 : decode cX4_readNot 73 = .ok (.getfield 19, 3) := by decide +kernel
theorem dX4_readNot_76 : decode cX4_readNot 76 = .ok (.iload_n 2, 1) := by decide +kernel
theorem dX4_readNot_77 : decode cX4_readNot 77 = .ok (.invokevirtual 56, 3) := by decide +kernel
theorem dX4_readNot_80 : decode cX4_readNot 80 = .ok (.return_, 1) := by decide +kernel
set_option maxRecDepth 100000 in
set_option maxHeartbeats 4000000 in
theorem kX4_readNot (l : Launch) (w : wT) (hw : yOk w 55) (f : Nat) (hF : (∀ (K : Hp → Prop) (σ : Hp) (a1 : Int32), VREC f 0 K σ a1 → yMet l w xcf 55 yX4_readOr cX4_readOr 3 none (9 + f) [.ref (w.1 38), .int a1] σ (yQv w xcf 55 K)) ∧ (∀ (K : Hp → Prop) (σ : Hp) (a1 : Int32), VREC f 1 K σ a1 → yMet l w xcf 55 yX4_readAnd cX4_readAnd 3 none (9 + f) [.ref (w.1 38), .int a1] σ (yQv w xcf 55 K)) ∧ (∀ (K : Hp → Prop) (σ : Hp) (a1 : Int32), VREC f 2 K σ a1 → yMet l w xcf 55 yX4_readNot cX4_readNot 3 none (9 + f) [.ref (w.1 38), .int a1] σ (yQv w xcf 55 K)) ∧ (∀ (K : Hp → Prop) (σ : Hp) (a1 : Int32), VREC f 3 K σ a1 → yMet l w xcf 55 yX4_readSum cX4_readSum 4 none (9 + f) [.ref (w.1 38), .int a1] σ (yQv w xcf 55 K)) ∧ (∀ (K : Hp → Prop) (σ : Hp) (a1 : Int32), VREC f 4 K σ a1 → yMet l w xcf 55 yX4_readTerm cX4_readTerm 3 none (9 + f) [.ref (w.1 38), .int a1] σ (yQv w xcf 55 K)) ∧ (∀ (K : Hp → Prop) (σ : Hp) (a1 : Int32), VREC f 5 K σ a1 → yMet l w xcf 55 yX4_readOne cX4_readOne 2 none (9 + f) [.ref (w.1 38), .int a1] σ (yQv w xcf 55 K))) : ∀ (K : Hp → Prop) (σ : Hp) (a1 : Int32), BX4_readNot (VREC f) K σ a1 → yMet l w xcf 55 yX4_readNot cX4_readNot 3 none (9 + f + 1) [.ref (w.1 38), .int a1] σ (yQv w xcf 55 K) := by
  intro K σ a1 hv
  unfold BX4_readNot at hv
  refine y_start (lv0 := [(0, .ref (w.1 38)), (1, .int a1)]) (by decide +kernel) (own := RX4) rfl hw (Nat.le_of_ble_eq_true rfl) rfl (fun p e s m below meth c A E => ?_)
  have hb58 : ∀ (σ : Hp) (l1 : Int32), VX4_readNot_b58 (VREC f) K σ l1 → YY p l e (yRm (9 + f + 1)) s m [.ref (w.1 38), .int a1].toArray below meth c w xcf 55 A (MQ below (yQv w xcf 55 K A) [.ref (w.1 38), .int a1].toArray s 0 0 A) 3 σ 58 [(0, .ref (w.1 38)), (1, .int l1)] [] := by
    intro σ l1 hv
    unfold VX4_readNot_b58 at hv
    refine y_aload_n E dX4_readNot_58 0 rfl ?_
    refine gf_X4_2 E (by decide) (by decide) wm_180 dX4_readNot_59 ?_
    refine y_nmi (fun x14 hx14 => ?_)
    replace hv := hv x14 hx14
    refine y_istore_n (lv' := [(2, .int x14), (0, .ref (w.1 38)), (1, .int l1)]) E dX4_readNot_62 (by decide) rfl ?_
    refine y_aload_n E dX4_readNot_63 1 rfl ?_
    refine y_callv E (y_runV E (rest := []) (kX4_goOn l w E.2.2.1 σ _ hv) (y_cwV 0 E.1.2.2.2.2 wm_152 wm_162 wm_163 wm_157 wm_164 (by decide +kernel) (yRm_le (by omega) (by decide))) (Nat.lt_of_lt_of_le (show 38 < 39 by decide) (by decide)) (xc_X4 (by decide) (by decide)) rfl rfl rfl (Nat.le_of_ble_eq_true rfl) dX4_readNot_64) (fun u16 hk => ?_)
    clear hv
    have hv := hk
    clear hk
    refine y_aload_n E dX4_readNot_67 1 rfl ?_
    refine y_iload_n E dX4_readNot_68 2 rfl ?_
    refine y_callv E (y_runV E (rest := []) (hF.2.2.2.1 _ _ l1 hv) (y_cwV 1 E.1.2.2.2.2 wm_189 wm_190 wm_191 wm_157 wm_192 (by decide +kernel) (yRm_le (by omega) (by decide))) (Nat.lt_of_lt_of_le (show 38 < 39 by decide) (by decide)) (xc_X4 (by decide) (by decide)) rfl rfl rfl (Nat.le_of_ble_eq_true rfl) dX4_readNot_69) (fun u18 hk => ?_)
    clear hv
    have hv := hk
    clear hk
    refine y_aload_n E dX4_readNot_72 1 rfl ?_
    obtain ⟨hnn, hv⟩ := hv
    refine gf_X4_6 E (by decide) (by decide) hnn wm_148 dX4_readNot_73 ?_
    refine y_nmr (fun x19 hx19 => ?_)
    obtain ⟨hgx19, hv⟩ := hv x19 hx19
    refine y_iload_n E dX4_readNot_76 0 rfl ?_
    refine y_callv E (y_runV E (rest := []) (kX9_add l w E.2.2.1 u18 x19 x14 _ hv) (y_cwV 1 E.1.2.2.2.2 wm_181 wm_182 wm_183 wm_113 wm_184 (by decide +kernel) (yRm_le (by omega) (by decide))) (Nat.lt_of_lt_of_le hgx19.2 (by decide)) (xc_X9 hgx19.1 hgx19.2) rfl rfl rfl (Nat.le_of_ble_eq_true rfl) dX4_readNot_77) (fun u21 hk => ?_)
    clear hv
    have hv := hk
    clear hk
    exact y_vret E dX4_readNot_80 hv
  have hb35 : ∀ (σ : Hp) (l1 : Int32), VX4_readNot_b35 (VREC f) K σ l1 → YY p l e (yRm (9 + f + 1)) s m [.ref (w.1 38), .int a1].toArray below meth c w xcf 55 A (MQ below (yQv w xcf 55 K A) [.ref (w.1 38), .int a1].toArray s 0 0 A) 3 σ 35 [(0, .ref (w.1 38)), (1, .int l1)] [] := by
    intro σ l1 hv
    unfold VX4_readNot_b35 at hv
    refine y_aload_n E dX4_readNot_35 0 rfl ?_
    refine y_iload_n E dX4_readNot_36 1 rfl ?_
    refine y_callv E (y_runV E (rest := []) (hF.2.2.2.1 _ _ l1 hv) (y_cwV 1 E.1.2.2.2.2 wm_189 wm_190 wm_191 wm_157 wm_192 (by decide +kernel) (yRm_le (by omega) (by decide))) (Nat.lt_of_lt_of_le (show 38 < 39 by decide) (by decide)) (xc_X4 (by decide) (by decide)) rfl rfl rfl (Nat.le_of_ble_eq_true rfl) dX4_readNot_37) (fun u11 hk => ?_)
    clear hv
    have hv := hk
    clear hk
    refine y_aload_n E dX4_readNot_40 0 rfl ?_
    refine gf_X4_2 E (by decide) (by decide) wm_180 dX4_readNot_41 ?_
    refine y_bipush (v := (-12)) E dX4_readNot_44 (by decide) ?_
    refine y_icmp_eq (tgt := 58) E dX4_readNot_46 (by decide) (fun c12 => ?_) (fun c12 => ?_)
    · replace hv := ite_t hv c12
      exact hb58 u11 l1 hv
    · replace hv := ite_f hv c12
      refine y_aload_n E dX4_readNot_49 0 rfl ?_
      refine gf_X4_2 E (by decide) (by decide) wm_180 dX4_readNot_50 ?_
      refine y_bipush (v := (-13)) E dX4_readNot_53 (by decide) ?_
      refine y_icmp_ne (tgt := 80) E dX4_readNot_55 (by decide) (fun c13 => ?_) (fun c13 => ?_)
      · replace hv := ite_f hv c13
        exact y_vret E dX4_readNot_80 hv
      · replace hv := ite_t hv c13
        exact hb58 u11 l1 hv
  refine y_aload_n E dX4_readNot_0 0 rfl ?_
  refine gf_X4_2 E (by decide) (by decide) wm_180 dX4_readNot_1 ?_
  refine y_bipush (v := (-7)) E dX4_readNot_4 (by decide) ?_
  refine y_icmp_ne (tgt := 35) E dX4_readNot_6 (by decide) (fun c1 => ?_) (fun c1 => ?_)
  · replace hv := ite_f hv c1
    exact hb35 σ a1 hv
  · replace hv := ite_t hv c1
    refine y_iload_n E dX4_readNot_9 1 rfl ?_
    refine y_iconst (v := 5) E dX4_readNot_10 (by decide) ?_
    refine y_icmp_ge (tgt := 35) E dX4_readNot_11 (by decide) (fun c2 => ?_) (fun c2 => ?_)
    · replace hv := ite_t hv c2
      exact hb35 σ a1 hv
    · replace hv := ite_f hv c2
      refine y_aload_n E dX4_readNot_14 0 rfl ?_
      refine y_callv E (y_runV E (rest := []) (kX4_goOn l w E.2.2.1 σ _ hv) (y_cwV 0 E.1.2.2.2.2 wm_152 wm_162 wm_163 wm_157 wm_164 (by decide +kernel) (yRm_le (by omega) (by decide))) (Nat.lt_of_lt_of_le (show 38 < 39 by decide) (by decide)) (xc_X4 (by decide) (by decide)) rfl rfl rfl (Nat.le_of_ble_eq_true rfl) dX4_readNot_15) (fun u4 hk => ?_)
      clear hv
      have hv := hk
      clear hk
      refine y_aload_n E dX4_readNot_18 0 rfl ?_
      refine y_iload_n E dX4_readNot_19 1 rfl ?_
      refine y_iconst (v := 1) E dX4_readNot_20 (by decide) ?_
      refine y_iadd E dX4_readNot_21 ?_
      refine y_callv E (y_runV E (rest := []) (hF.2.2.1 _ _ (a1 + 1) hv) (y_cwV 1 E.1.2.2.2.2 wm_185 wm_186 wm_187 wm_157 wm_188 (by decide +kernel) (yRm_le (by omega) (by decide))) (Nat.lt_of_lt_of_le (show 38 < 39 by decide) (by decide)) (xc_X4 (by decide) (by decide)) rfl rfl rfl (Nat.le_of_ble_eq_true rfl) dX4_readNot_22) (fun u6 hk => ?_)
      clear hv
      have hv := hk
      clear hk
      refine y_aload_n E dX4_readNot_25 0 rfl ?_
      obtain ⟨hnn, hv⟩ := hv
      refine gf_X4_6 E (by decide) (by decide) hnn wm_148 dX4_readNot_26 ?_
      refine y_nmr (fun x7 hx7 => ?_)
      obtain ⟨hgx7, hv⟩ := hv x7 hx7
      refine y_bipush (v := (-7)) E dX4_readNot_29 (by decide) ?_
      refine y_callv E (y_runV E (rest := []) (kX9_add l w E.2.2.1 u6 x7 (-7) _ hv) (y_cwV 1 E.1.2.2.2.2 wm_181 wm_182 wm_183 wm_113 wm_184 (by decide +kernel) (yRm_le (by omega) (by decide))) (Nat.lt_of_lt_of_le hgx7.2 (by decide)) (xc_X9 hgx7.1 hgx7.2) rfl rfl rfl (Nat.le_of_ble_eq_true rfl) dX4_readNot_31) (fun u9 hk => ?_)
      clear hv
      have hv := hk
      clear hk
      exact y_vret E dX4_readNot_34 hv
theorem dX4_readSum_0 : decode cX4_readSum 0 = .ok (.aload_n 0, 1) := by decide +kernel
theorem dX4_readSum_1 : decode cX4_readSum 1 = .ok (.iload_n 1, 1) := by decide +kernel
theorem dX4_readSum_2 : decode cX4_readSum 2 = .ok (.invokevirtual 65, 3) := by decide +kernel
theorem dX4_readSum_5 : decode cX4_readSum 5 = .ok (.iconst 0, 1) := by decide +kernel
theorem dX4_readSum_6 : decode cX4_readSum 6 = .ok (.istore_n 2, 1) := by decide +kernel
theorem dX4_readSum_7 : decode cX4_readSum 7 = .ok (.iload_n 2, 1) := by decide +kernel
theorem dX4_readSum_8 : decode cX4_readSum 8 = .ok (.sipush 160, 3) := by decide +kernel
theorem dX4_readSum_11 : decode cX4_readSum 11 = .ok (.if_icmp .ge 49, 3) := by decide +kernel
theorem dX4_readSum_14 : decode cX4_readSum 14 = .ok (.aload_n 0, 1) := by decide +kernel
theorem dX4_readSum_15 : decode cX4_readSum 15 = .ok (.getfield 53, 3) := by decide +kernel
theorem dX4_readSum_18 : decode cX4_readSum 18 = .ok (.bipush (-9), 2) := by decide +kernel
theorem dX4_readSum_20 : decode cX4_readSum 20 = .ok (.if_icmp .eq 12, 3) := by decide +kernel
theorem dX4_readSum_23 : decode cX4_readSum 23 = .ok (.aload_n 0, 1) := by decide +kernel
theorem dX4_readSum_24 : decode cX4_readSum 24 = .ok (.getfield 53, 3) := by decide +kernel
theorem dX4_readSum_27 : decode cX4_readSum 27 = .ok (.bipush (-10), 2) := by decide +kernel
theorem dX4_readSum_29 : decode cX4_readSum 29 = .ok (.if_icmp .ne 31, 3) := by decide +kernel
theorem dX4_readSum_32 : decode cX4_readSum 32 = .ok (.aload_n 0, 1) := by decide +kernel
theorem dX4_readSum_33 : decode cX4_readSum 33 = .ok (.getfield 53, 3) := by decide +kernel
theorem dX4_readSum_36 : decode cX4_readSum 36 = .ok (.istore_n 3, 1) := by decide +kernel
theorem dX4_readSum_37 : decode cX4_readSum 37 = .ok (.aload_n 0, 1) := by decide +kernel
theorem dX4_readSum_38 : decode cX4_readSum 38 = .ok (.invokevirtual 34, 3) := by decide +kernel
theorem dX4_readSum_41 : decode cX4_readSum 41 = .ok (.aload_n 0, 1) := by decide +kernel
theorem dX4_readSum_42 : decode cX4_readSum 42 = .ok (.iload_n 1, 1) := by decide +kernel
theorem dX4_readSum_43 : decode cX4_readSum 43 = .ok (.invokevirtual 65, 3) := by decide +kernel
theorem dX4_readSum_46 : decode cX4_readSum 46 = .ok (.aload_n 0, 1) := by decide +kernel
theorem dX4_readSum_47 : decode cX4_readSum 47 = .ok (.getfield 19, 3) := by decide +kernel
theorem dX4_readSum_50 : decode cX4_readSum 50 = .ok (.iload_n 3, 1) := by decide +kernel
theorem dX4_readSum_51 : decode cX4_readSum 51 = .ok (.invokevirtual 56, 3) := by decide +kernel
theorem dX4_readSum_54 : decode cX4_readSum 54 = .ok (.iinc 2 1, 3) := by decide +kernel
theorem dX4_readSum_57 : decode cX4_readSum 57 = .ok (.goto (-50), 3) := by decide +kernel
theorem dX4_readSum_60 : decode cX4_readSum 60 = .ok (.return_, 1) := by decide +kernel
set_option maxRecDepth 100000 in
set_option maxHeartbeats 4000000 in
theorem kX4_readSum (l : Launch) (w : wT) (hw : yOk w 55) (f : Nat) (hF : (∀ (K : Hp → Prop) (σ : Hp) (a1 : Int32), VREC f 0 K σ a1 → yMet l w xcf 55 yX4_readOr cX4_readOr 3 none (9 + f) [.ref (w.1 38), .int a1] σ (yQv w xcf 55 K)) ∧ (∀ (K : Hp → Prop) (σ : Hp) (a1 : Int32), VREC f 1 K σ a1 → yMet l w xcf 55 yX4_readAnd cX4_readAnd 3 none (9 + f) [.ref (w.1 38), .int a1] σ (yQv w xcf 55 K)) ∧ (∀ (K : Hp → Prop) (σ : Hp) (a1 : Int32), VREC f 2 K σ a1 → yMet l w xcf 55 yX4_readNot cX4_readNot 3 none (9 + f) [.ref (w.1 38), .int a1] σ (yQv w xcf 55 K)) ∧ (∀ (K : Hp → Prop) (σ : Hp) (a1 : Int32), VREC f 3 K σ a1 → yMet l w xcf 55 yX4_readSum cX4_readSum 4 none (9 + f) [.ref (w.1 38), .int a1] σ (yQv w xcf 55 K)) ∧ (∀ (K : Hp → Prop) (σ : Hp) (a1 : Int32), VREC f 4 K σ a1 → yMet l w xcf 55 yX4_readTerm cX4_readTerm 3 none (9 + f) [.ref (w.1 38), .int a1] σ (yQv w xcf 55 K)) ∧ (∀ (K : Hp → Prop) (σ : Hp) (a1 : Int32), VREC f 5 K σ a1 → yMet l w xcf 55 yX4_readOne cX4_readOne 2 none (9 + f) [.ref (w.1 38), .int a1] σ (yQv w xcf 55 K))) : ∀ (K : Hp → Prop) (σ : Hp) (a1 : Int32), BX4_readSum (VREC f) K σ a1 → yMet l w xcf 55 yX4_readSum cX4_readSum 4 none (9 + f + 1) [.ref (w.1 38), .int a1] σ (yQv w xcf 55 K) := by
  intro K σ a1 hv
  unfold BX4_readSum at hv
  refine y_start (lv0 := [(0, .ref (w.1 38)), (1, .int a1)]) (by decide +kernel) (own := RX4) rfl hw (Nat.le_of_ble_eq_true rfl) rfl (fun p e s m below meth c A E => ?_)
  have hL7 : ∀ (n7 : Nat) (σ : Hp) (l1 : Int32) (l2 : Int32), VX4_readSum_L7 (VREC f) K n7 σ l1 l2 → YY p l e (yRm (9 + f + 1)) s m [.ref (w.1 38), .int a1].toArray below meth c w xcf 55 A (MQ below (yQv w xcf 55 K A) [.ref (w.1 38), .int a1].toArray s 0 0 A) 4 σ 7 [(0, .ref (w.1 38)), (1, .int l1), (2, .int l2)] [] := by
    intro n7
    induction n7 with
    | zero => exact fun _ _ _ hv => (by unfold VX4_readSum_L7 at hv; exact hv.elim)
    | succ n7 ih7 =>
      have hb32 : ∀ (σ : Hp) (l1 : Int32) (l2 : Int32), VX4_readSum_b32 (VREC f) K (VX4_readSum_L7 (VREC f) K n7) σ l1 l2 → YY p l e (yRm (9 + f + 1)) s m [.ref (w.1 38), .int a1].toArray below meth c w xcf 55 A (MQ below (yQv w xcf 55 K A) [.ref (w.1 38), .int a1].toArray s 0 0 A) 4 σ 32 [(0, .ref (w.1 38)), (1, .int l1), (2, .int l2)] [] := by
        intro σ l1 l2 hv
        unfold VX4_readSum_b32 at hv
        refine y_aload_n E dX4_readSum_32 0 rfl ?_
        refine gf_X4_2 E (by decide) (by decide) wm_180 dX4_readSum_33 ?_
        refine y_nmi (fun x6 hx6 => ?_)
        replace hv := hv x6 hx6
        refine y_istore_n (lv' := [(3, .int x6), (0, .ref (w.1 38)), (1, .int l1), (2, .int l2)]) E dX4_readSum_36 (by decide) rfl ?_
        refine y_aload_n E dX4_readSum_37 1 rfl ?_
        refine y_callv E (y_runV E (rest := []) (kX4_goOn l w E.2.2.1 σ _ hv) (y_cwV 0 E.1.2.2.2.2 wm_152 wm_162 wm_163 wm_157 wm_164 (by decide +kernel) (yRm_le (by omega) (by decide))) (Nat.lt_of_lt_of_le (show 38 < 39 by decide) (by decide)) (xc_X4 (by decide) (by decide)) rfl rfl rfl (Nat.le_of_ble_eq_true rfl) dX4_readSum_38) (fun u8 hk => ?_)
        clear hv
        have hv := hk
        clear hk
        refine y_aload_n E dX4_readSum_41 1 rfl ?_
        refine y_iload_n E dX4_readSum_42 2 rfl ?_
        refine y_callv E (y_runV E (rest := []) (hF.2.2.2.2.1 _ _ l1 hv) (y_cwV 1 E.1.2.2.2.2 wm_193 wm_194 wm_195 wm_157 wm_196 (by decide +kernel) (yRm_le (by omega) (by decide))) (Nat.lt_of_lt_of_le (show 38 < 39 by decide) (by decide)) (xc_X4 (by decide) (by decide)) rfl rfl rfl (Nat.le_of_ble_eq_true rfl) dX4_readSum_43) (fun u10 hk => ?_)
        clear hv
        have hv := hk
        clear hk
        refine y_aload_n E dX4_readSum_46 1 rfl ?_
        obtain ⟨hnn, hv⟩ := hv
        refine gf_X4_6 E (by decide) (by decide) hnn wm_148 dX4_readSum_47 ?_
        refine y_nmr (fun x11 hx11 => ?_)
        obtain ⟨hgx11, hv⟩ := hv x11 hx11
        refine y_iload_n E dX4_readSum_50 0 rfl ?_
        refine y_callv E (y_runV E (rest := []) (kX9_add l w E.2.2.1 u10 x11 x6 _ hv) (y_cwV 1 E.1.2.2.2.2 wm_181 wm_182 wm_183 wm_113 wm_184 (by decide +kernel) (yRm_le (by omega) (by decide))) (Nat.lt_of_lt_of_le hgx11.2 (by decide)) (xc_X9 hgx11.1 hgx11.2) rfl rfl rfl (Nat.le_of_ble_eq_true rfl) dX4_readSum_51) (fun u13 hk => ?_)
        clear hv
        have hv := hk
        clear hk
        obtain ⟨x14, hx14⟩ : ∃ z : Int32, z = l2 + 1 := ⟨_, rfl⟩
        replace hv := hv x14 hx14
        refine y_iinc (v := x14) (lv' := [(2, .int x14), (3, .int x6), (0, .ref (w.1 38)), (1, .int l1)]) E dX4_readSum_54 3 rfl (by rw [hx14]; rfl) (by decide) rfl ?_
        refine y_goto (tgt := 7) E dX4_readSum_57 (by decide) ?_
        refine y_lv (lv' := [(0, .ref (w.1 38)), (1, .int l1), (2, .int x14)]) [2, 3, 0] rfl ?_
        exact ih7 u13 l1 x14 hv
      intro σ l1 l2 hv
      unfold VX4_readSum_L7 at hv
      refine y_iload_n E dX4_readSum_7 2 rfl ?_
      refine y_sipush (v := 160) E dX4_readSum_8 (by decide) ?_
      refine y_icmp_ge (tgt := 60) E dX4_readSum_11 (by decide) (fun c3 => ?_) (fun c3 => ?_)
      · replace hv := ite_t hv c3
        exact y_vret E dX4_readSum_60 hv
      · replace hv := ite_f hv c3
        refine y_aload_n E dX4_readSum_14 0 rfl ?_
        refine gf_X4_2 E (by decide) (by decide) wm_180 dX4_readSum_15 ?_
        refine y_bipush (v := (-9)) E dX4_readSum_18 (by decide) ?_
        refine y_icmp_eq (tgt := 32) E dX4_readSum_20 (by decide) (fun c4 => ?_) (fun c4 => ?_)
        · replace hv := ite_t hv c4
          exact hb32 σ l1 l2 hv
        · replace hv := ite_f hv c4
          refine y_aload_n E dX4_readSum_23 0 rfl ?_
          refine gf_X4_2 E (by decide) (by decide) wm_180 dX4_readSum_24 ?_
          refine y_bipush (v := (-10)) E dX4_readSum_27 (by decide) ?_
          refine y_icmp_ne (tgt := 60) E dX4_readSum_29 (by decide) (fun c5 => ?_) (fun c5 => ?_)
          · replace hv := ite_f hv c5
            exact y_vret E dX4_readSum_60 hv
          · replace hv := ite_t hv c5
            exact hb32 σ l1 l2 hv
  refine y_aload_n E dX4_readSum_0 0 rfl ?_
  refine y_iload_n E dX4_readSum_1 1 rfl ?_
  refine y_callv E (y_runV E (rest := []) (hF.2.2.2.2.1 _ _ a1 hv) (y_cwV 1 E.1.2.2.2.2 wm_193 wm_194 wm_195 wm_157 wm_196 (by decide +kernel) (yRm_le (by omega) (by decide))) (Nat.lt_of_lt_of_le (show 38 < 39 by decide) (by decide)) (xc_X4 (by decide) (by decide)) rfl rfl rfl (Nat.le_of_ble_eq_true rfl) dX4_readSum_2) (fun u2 hk => ?_)
  clear hv
  have hv := hk
  clear hk
  refine y_iconst (v := 0) E dX4_readSum_5 (by decide) ?_
  refine y_istore_n (lv' := [(2, .int 0), (0, .ref (w.1 38)), (1, .int a1)]) E dX4_readSum_6 (by decide) rfl ?_
  refine y_lv (lv' := [(0, .ref (w.1 38)), (1, .int a1), (2, .int 0)]) [1, 2, 0] rfl ?_
  obtain ⟨n0, hv⟩ := hv
  exact hL7 n0 u2 a1 0 hv
theorem dX4_readTerm_0 : decode cX4_readTerm 0 = .ok (.aload_n 0, 1) := by decide +kernel
theorem dX4_readTerm_1 : decode cX4_readTerm 1 = .ok (.iload_n 1, 1) := by decide +kernel
theorem dX4_readTerm_2 : decode cX4_readTerm 2 = .ok (.invokevirtual 68, 3) := by decide +kernel
theorem dX4_readTerm_5 : decode cX4_readTerm 5 = .ok (.iconst 0, 1) := by decide +kernel
theorem dX4_readTerm_6 : decode cX4_readTerm 6 = .ok (.istore_n 2, 1) := by decide +kernel
theorem dX4_readTerm_7 : decode cX4_readTerm 7 = .ok (.iload_n 2, 1) := by decide +kernel
theorem dX4_readTerm_8 : decode cX4_readTerm 8 = .ok (.sipush 160, 3) := by decide +kernel
theorem dX4_readTerm_11 : decode cX4_readTerm 11 = .ok (.if_icmp .ge 36, 3) := by decide +kernel
theorem dX4_readTerm_14 : decode cX4_readTerm 14 = .ok (.aload_n 0, 1) := by decide +kernel
theorem dX4_readTerm_15 : decode cX4_readTerm 15 = .ok (.getfield 53, 3) := by decide +kernel
theorem dX4_readTerm_18 : decode cX4_readTerm 18 = .ok (.bipush (-11), 2) := by decide +kernel
theorem dX4_readTerm_20 : decode cX4_readTerm 20 = .ok (.if_icmp .ne 27, 3) := by decide +kernel
theorem dX4_readTerm_23 : decode cX4_readTerm 23 = .ok (.aload_n 0, 1) := by decide +kernel
theorem dX4_readTerm_24 : decode cX4_readTerm 24 = .ok (.invokevirtual 34, 3) := by decide +kernel
theorem dX4_readTerm_27 : decode cX4_readTerm 27 = .ok (.aload_n 0, 1) := by decide +kernel
theorem dX4_readTerm_28 : decode cX4_readTerm 28 = .ok (.iload_n 1, 1) := by decide +kernel
theorem dX4_readTerm_29 : decode cX4_readTerm 29 = .ok (.invokevirtual 68, 3) := by decide +kernel
theorem dX4_readTerm_32 : decode cX4_readTerm 32 = .ok (.aload_n 0, 1) := by decide +kernel
theorem dX4_readTerm_33 : decode cX4_readTerm 33 = .ok (.getfield 19, 3) := by decide +kernel
theorem dX4_readTerm_36 : decode cX4_readTerm 36 = .ok (.bipush (-11), 2) := by decide +kernel
theorem dX4_readTerm_38 : decode cX4_readTerm 38 = .ok (.invokevirtual 56, 3) := by decide +kernel
theorem dX4_readTerm_41 : decode cX4_readTerm 41 = .ok (.iinc 2 1, 3) := by decide +kernel
theorem dX4_readTerm_44 : decode cX4_readTerm 44 = .ok (.goto (-37), 3) := by decide +kernel
theorem dX4_readTerm_47 : decode cX4_readTerm 47 = .ok (.return_, 1) := by decide +kernel
set_option maxRecDepth 100000 in
set_option maxHeartbeats 4000000 in
theorem kX4_readTerm (l : Launch) (w : wT) (hw : yOk w 55) (f : Nat) (hF : (∀ (K : Hp → Prop) (σ : Hp) (a1 : Int32), VREC f 0 K σ a1 → yMet l w xcf 55 yX4_readOr cX4_readOr 3 none (9 + f) [.ref (w.1 38), .int a1] σ (yQv w xcf 55 K)) ∧ (∀ (K : Hp → Prop) (σ : Hp) (a1 : Int32), VREC f 1 K σ a1 → yMet l w xcf 55 yX4_readAnd cX4_readAnd 3 none (9 + f) [.ref (w.1 38), .int a1] σ (yQv w xcf 55 K)) ∧ (∀ (K : Hp → Prop) (σ : Hp) (a1 : Int32), VREC f 2 K σ a1 → yMet l w xcf 55 yX4_readNot cX4_readNot 3 none (9 + f) [.ref (w.1 38), .int a1] σ (yQv w xcf 55 K)) ∧ (∀ (K : Hp → Prop) (σ : Hp) (a1 : Int32), VREC f 3 K σ a1 → yMet l w xcf 55 yX4_readSum cX4_readSum 4 none (9 + f) [.ref (w.1 38), .int a1] σ (yQv w xcf 55 K)) ∧ (∀ (K : Hp → Prop) (σ : Hp) (a1 : Int32), VREC f 4 K σ a1 → yMet l w xcf 55 yX4_readTerm cX4_readTerm 3 none (9 + f) [.ref (w.1 38), .int a1] σ (yQv w xcf 55 K)) ∧ (∀ (K : Hp → Prop) (σ : Hp) (a1 : Int32), VREC f 5 K σ a1 → yMet l w xcf 55 yX4_readOne cX4_readOne 2 none (9 + f) [.ref (w.1 38), .int a1] σ (yQv w xcf 55 K))) : ∀ (K : Hp → Prop) (σ : Hp) (a1 : Int32), BX4_readTerm (VREC f) K σ a1 → yMet l w xcf 55 yX4_readTerm cX4_readTerm 3 none (9 + f + 1) [.ref (w.1 38), .int a1] σ (yQv w xcf 55 K) := by
  intro K σ a1 hv
  unfold BX4_readTerm at hv
  refine y_start (lv0 := [(0, .ref (w.1 38)), (1, .int a1)]) (by decide +kernel) (own := RX4) rfl hw (Nat.le_of_ble_eq_true rfl) rfl (fun p e s m below meth c A E => ?_)
  have hL7 : ∀ (n7 : Nat) (σ : Hp) (l1 : Int32) (l2 : Int32), VX4_readTerm_L7 (VREC f) K n7 σ l1 l2 → YY p l e (yRm (9 + f + 1)) s m [.ref (w.1 38), .int a1].toArray below meth c w xcf 55 A (MQ below (yQv w xcf 55 K A) [.ref (w.1 38), .int a1].toArray s 0 0 A) 3 σ 7 [(0, .ref (w.1 38)), (1, .int l1), (2, .int l2)] [] := by
    intro n7
    induction n7 with
    | zero => exact fun _ _ _ hv => (by unfold VX4_readTerm_L7 at hv; exact hv.elim)
    | succ n7 ih7 =>
      intro σ l1 l2 hv
      unfold VX4_readTerm_L7 at hv
      refine y_iload_n E dX4_readTerm_7 2 rfl ?_
      refine y_sipush (v := 160) E dX4_readTerm_8 (by decide) ?_
      refine y_icmp_ge (tgt := 47) E dX4_readTerm_11 (by decide) (fun c3 => ?_) (fun c3 => ?_)
      · replace hv := ite_t hv c3
        exact y_vret E dX4_readTerm_47 hv
      · replace hv := ite_f hv c3
        refine y_aload_n E dX4_readTerm_14 0 rfl ?_
        refine gf_X4_2 E (by decide) (by decide) wm_180 dX4_readTerm_15 ?_
        refine y_bipush (v := (-11)) E dX4_readTerm_18 (by decide) ?_
        refine y_icmp_ne (tgt := 47) E dX4_readTerm_20 (by decide) (fun c4 => ?_) (fun c4 => ?_)
        · replace hv := ite_f hv c4
          exact y_vret E dX4_readTerm_47 hv
        · replace hv := ite_t hv c4
          refine y_aload_n E dX4_readTerm_23 0 rfl ?_
          refine y_callv E (y_runV E (rest := []) (kX4_goOn l w E.2.2.1 σ _ hv) (y_cwV 0 E.1.2.2.2.2 wm_152 wm_162 wm_163 wm_157 wm_164 (by decide +kernel) (yRm_le (by omega) (by decide))) (Nat.lt_of_lt_of_le (show 38 < 39 by decide) (by decide)) (xc_X4 (by decide) (by decide)) rfl rfl rfl (Nat.le_of_ble_eq_true rfl) dX4_readTerm_24) (fun u6 hk => ?_)
          clear hv
          have hv := hk
          clear hk
          refine y_aload_n E dX4_readTerm_27 0 rfl ?_
          refine y_iload_n E dX4_readTerm_28 1 rfl ?_
          refine y_callv E (y_runV E (rest := []) (hF.2.2.2.2.2 _ _ l1 hv) (y_cwV 1 E.1.2.2.2.2 wm_197 wm_198 wm_199 wm_157 wm_200 (by decide +kernel) (yRm_le (by omega) (by decide))) (Nat.lt_of_lt_of_le (show 38 < 39 by decide) (by decide)) (xc_X4 (by decide) (by decide)) rfl rfl rfl (Nat.le_of_ble_eq_true rfl) dX4_readTerm_29) (fun u8 hk => ?_)
          clear hv
          have hv := hk
          clear hk
          refine y_aload_n E dX4_readTerm_32 0 rfl ?_
          obtain ⟨hnn, hv⟩ := hv
          refine gf_X4_6 E (by decide) (by decide) hnn wm_148 dX4_readTerm_33 ?_
          refine y_nmr (fun x9 hx9 => ?_)
          obtain ⟨hgx9, hv⟩ := hv x9 hx9
          refine y_bipush (v := (-11)) E dX4_readTerm_36 (by decide) ?_
          refine y_callv E (y_runV E (rest := []) (kX9_add l w E.2.2.1 u8 x9 (-11) _ hv) (y_cwV 1 E.1.2.2.2.2 wm_181 wm_182 wm_183 wm_113 wm_184 (by decide +kernel) (yRm_le (by omega) (by decide))) (Nat.lt_of_lt_of_le hgx9.2 (by decide)) (xc_X9 hgx9.1 hgx9.2) rfl rfl rfl (Nat.le_of_ble_eq_true rfl) dX4_readTerm_38) (fun u11 hk => ?_)
          clear hv
          have hv := hk
          clear hk
          obtain ⟨x12, hx12⟩ : ∃ z : Int32, z = l2 + 1 := ⟨_, rfl⟩
          replace hv := hv x12 hx12
          refine y_iinc (v := x12) (lv' := [(2, .int x12), (0, .ref (w.1 38)), (1, .int l1)]) E dX4_readTerm_41 2 rfl (by rw [hx12]; rfl) (by decide) rfl ?_
          refine y_goto (tgt := 7) E dX4_readTerm_44 (by decide) ?_
          refine y_lv (lv' := [(0, .ref (w.1 38)), (1, .int l1), (2, .int x12)]) [1, 2, 0] rfl ?_
          exact ih7 u11 l1 x12 hv
  refine y_aload_n E dX4_readTerm_0 0 rfl ?_
  refine y_iload_n E dX4_readTerm_1 1 rfl ?_
  refine y_callv E (y_runV E (rest := []) (hF.2.2.2.2.2 _ _ a1 hv) (y_cwV 1 E.1.2.2.2.2 wm_197 wm_198 wm_199 wm_157 wm_200 (by decide +kernel) (yRm_le (by omega) (by decide))) (Nat.lt_of_lt_of_le (show 38 < 39 by decide) (by decide)) (xc_X4 (by decide) (by decide)) rfl rfl rfl (Nat.le_of_ble_eq_true rfl) dX4_readTerm_2) (fun u2 hk => ?_)
  clear hv
  have hv := hk
  clear hk
  refine y_iconst (v := 0) E dX4_readTerm_5 (by decide) ?_
  refine y_istore_n (lv' := [(2, .int 0), (0, .ref (w.1 38)), (1, .int a1)]) E dX4_readTerm_6 (by decide) rfl ?_
  refine y_lv (lv' := [(0, .ref (w.1 38)), (1, .int a1), (2, .int 0)]) [1, 2, 0] rfl ?_
  obtain ⟨n0, hv⟩ := hv
  exact hL7 n0 u2 a1 0 hv
theorem dX4_readOne_0 : decode cX4_readOne 0 = .ok (.aload_n 0, 1) := by decide +kernel
theorem dX4_readOne_1 : decode cX4_readOne 1 = .ok (.getfield 53, 3) := by decide +kernel
theorem dX4_readOne_4 : decode cX4_readOne 4 = .ok (.bipush (-6), 2) := by decide +kernel
theorem dX4_readOne_6 : decode cX4_readOne 6 = .ok (.if_icmp .lt 21, 3) := by decide +kernel
theorem dX4_readOne_9 : decode cX4_readOne 9 = .ok (.aload_n 0, 1) := by decide +kernel
theorem dX4_readOne_10 : decode cX4_readOne 10 = .ok (.getfield 19, 3) := by decide +kernel
theorem dX4_readOne_13 : decode cX4_readOne 13 = .ok (.aload_n 0, 1) := by decide +kernel
theorem dX4_readOne_14 : decode cX4_readOne 14 = .ok (.getfield 53, 3) := by decide +kernel
theorem dX4_readOne_17 : decode cX4_readOne 17 = .ok (.invokevirtual 56, 3) := by decide +kernel
theorem dX4_readOne_20 : decode cX4_readOne 20 = .ok (.aload_n 0, 1) := by decide +kernel
theorem dX4_readOne_21 : decode cX4_readOne 21 = .ok (.invokevirtual 34, 3) := by decide +kernel
theorem dX4_readOne_24 : decode cX4_readOne 24 = .ok (.goto 78, 3) := by decide +kernel
theorem dX4_readOne_27 : decode cX4_readOne 27 = .ok (.aload_n 0, 1) := by decide +kernel
theorem dX4_readOne_28 : decode cX4_readOne 28 = .ok (.getfield 53, 3) := by decide +kernel
theorem dX4_readOne_31 : decode cX4_readOne 31 = .ok (.bipush (-10), 2) := by decide +kernel
theorem dX4_readOne_33 : decode cX4_readOne 33 = .ok (.if_icmp .ne 31, 3) := by decide +kernel
theorem dX4_readOne_36 : decode cX4_readOne 36 = .ok (.iload_n 1, 1) := by decide +kernel
theorem dX4_readOne_37 : decode cX4_readOne 37 = .ok (.iconst 5, 1) := by decide +kernel
theorem dX4_readOne_38 : decode cX4_readOne 38 = .ok (.if_icmp .ge 26, 3) := by decide +kernel
theorem dX4_readOne_41 : decode cX4_readOne 41 = .ok (.aload_n 0, 1) := by decide +kernel
theorem dX4_readOne_42 : decode cX4_readOne 42 = .ok (.invokevirtual 34, 3) := by decide +kernel
theorem dX4_readOne_45 : decode cX4_readOne 45 = .ok (.aload_n 0, 1) := by decide +kernel
theorem dX4_readOne_46 : decode cX4_readOne 46 = .ok (.iload_n 1, 1) := by decide +kernel
theorem dX4_readOne_47 : decode cX4_readOne 47 = .ok (.iconst 1, 1) := by decide +kernel
theorem dX4_readOne_48 : decode cX4_readOne 48 = .ok (.iadd, 1) := by decide +kernel
theorem dX4_readOne_49 : decode cX4_readOne 49 = .ok (.invokevirtual 68, 3) := by decide +kernel
theorem dX4_readOne_52 : decode cX4_readOne 52 = .ok (.aload_n 0, 1) := by decide +kernel
theorem dX4_readOne_53 : decode cX4_readOne 53 = .ok (.getfield 19, 3) := by decide +kernel
theorem dX4_readOne_56 : decode cX4_readOne 56 = .ok (.bipush (-8), 2) := by decide +kernel
theorem dX4_readOne_58 : decode cX4_readOne 58 = .ok (.invokevirtual 56, 3) := by decide +kernel
theorem dX4_readOne_61 : decode cX4_readOne 61 = .ok (.goto 41, 3) := by decide +kernel
theorem dX4_readOne_64 : decode cX4_readOne 64 = .ok (.aload_n 0, 1) := by decide +kernel
theorem dX4_readOne_65 : decode cX4_readOne 65 = .ok (.getfield 53, 3) := by decide +kernel
theorem dX4_readOne_68 : decode cX4_readOne 68 = .ok (.bipush (-20), 2) := by decide +kernel
theorem dX4_readOne_70 : decode cX4_readOne 70 = .ok (.if_icmp .ne 28, 3) := by decide +kernel
theorem dX4_readOne_73 : decode cX4_readOne 73 = .ok (.iload_n 1, 1) := by decide +kernel
theorem dX4_readOne_74 : decode cX4_readOne 74 = .ok (.iconst 5, 1) := by decide +kernel
theorem dX4_readOne_75 : decode cX4_readOne 75 = .ok (.if_icmp .ge 23, 3) := by decide +kernel
theorem dX4_readOne_78 : decode cX4_readOne 78 = .ok (.aload_n 0, 1) := by decide +kernel
theorem dX4_readOne_79 : decode cX4_readOne 79 = .ok (.invokevirtual 34, 3) := by decide +kernel
theorem dX4_readOne_82 : decode cX4_readOne 82 = .ok (.aload_n 0, 1) := by decide +kernel
theorem dX4_readOne_83 : decode cX4_readOne 83 = .ok (.iload_n 1, 1) := by decide +kernel
theorem dX4_readOne_84 : decode cX4_readOne 84 = .ok (.iconst 1, 1) := by decide +kernel
theorem dX4_readOne_85 : decode cX4_readOne 85 = .ok (.iadd, 1) := by decide +kernel
theorem dX4_readOne_86 : decode cX4_readOne 86 = .ok (.invokevirtual 44, 3) := by decide +kernel
theorem dX4_readOne_89 : decode cX4_readOne 89 = .ok (.aload_n 0, 1) := by decide +kernel
theorem dX4_readOne_90 : decode cX4_readOne 90 = .ok (.bipush (-21), 2) := by decide +kernel
theorem dX4_readOne_92 : decode cX4_readOne 92 = .ok (.invokevirtual 41, 3) := by decide +kernel
theorem dX4_readOne_95 : decode cX4_readOne 95 = .ok (.goto 7, 3) := by decide +kernel
theorem dX4_readOne_98 : decode cX4_readOne 98 = .ok (.aload_n 0, 1) := by decide +kernel
theorem dX4_readOne_99 : decode cX4_readOne 99 = .ok (.invokevirtual 71, 3) := by decide +kernel
theorem dX4_readOne_102 : decode cX4_readOne 102 = .ok (.return_, 1) := by decide +kernel
set_option maxRecDepth 100000 in
set_option maxHeartbeats 4000000 in
theorem kX4_readOne (l : Launch) (w : wT) (hw : yOk w 55) (f : Nat) (hF : (∀ (K : Hp → Prop) (σ : Hp) (a1 : Int32), VREC f 0 K σ a1 → yMet l w xcf 55 yX4_readOr cX4_readOr 3 none (9 + f) [.ref (w.1 38), .int a1] σ (yQv w xcf 55 K)) ∧ (∀ (K : Hp → Prop) (σ : Hp) (a1 : Int32), VREC f 1 K σ a1 → yMet l w xcf 55 yX4_readAnd cX4_readAnd 3 none (9 + f) [.ref (w.1 38), .int a1] σ (yQv w xcf 55 K)) ∧ (∀ (K : Hp → Prop) (σ : Hp) (a1 : Int32), VREC f 2 K σ a1 → yMet l w xcf 55 yX4_readNot cX4_readNot 3 none (9 + f) [.ref (w.1 38), .int a1] σ (yQv w xcf 55 K)) ∧ (∀ (K : Hp → Prop) (σ : Hp) (a1 : Int32), VREC f 3 K σ a1 → yMet l w xcf 55 yX4_readSum cX4_readSum 4 none (9 + f) [.ref (w.1 38), .int a1] σ (yQv w xcf 55 K)) ∧ (∀ (K : Hp → Prop) (σ : Hp) (a1 : Int32), VREC f 4 K σ a1 → yMet l w xcf 55 yX4_readTerm cX4_readTerm 3 none (9 + f) [.ref (w.1 38), .int a1] σ (yQv w xcf 55 K)) ∧ (∀ (K : Hp → Prop) (σ : Hp) (a1 : Int32), VREC f 5 K σ a1 → yMet l w xcf 55 yX4_readOne cX4_readOne 2 none (9 + f) [.ref (w.1 38), .int a1] σ (yQv w xcf 55 K))) : ∀ (K : Hp → Prop) (σ : Hp) (a1 : Int32), BX4_readOne (VREC f) K σ a1 → yMet l w xcf 55 yX4_readOne cX4_readOne 2 none (9 + f + 1) [.ref (w.1 38), .int a1] σ (yQv w xcf 55 K) := by
  intro K σ a1 hv
  unfold BX4_readOne at hv
  refine y_start (lv0 := [(0, .ref (w.1 38)), (1, .int a1)]) (by decide +kernel) (own := RX4) rfl hw (Nat.le_of_ble_eq_true rfl) rfl (fun p e s m below meth c A E => ?_)
  have hb98 : ∀ (σ : Hp), VX4_readOne_b98 (VREC f) K σ → YY p l e (yRm (9 + f + 1)) s m [.ref (w.1 38), .int a1].toArray below meth c w xcf 55 A (MQ below (yQv w xcf 55 K A) [.ref (w.1 38), .int a1].toArray s 0 0 A) 2 σ 98 [(0, .ref (w.1 38))] [] := by
    intro σ hv
    unfold VX4_readOne_b98 at hv
    refine y_aload_n E dX4_readOne_98 0 rfl ?_
    refine y_callv E (y_runV E (rest := []) (kX4_fail l w E.2.2.1 σ _ hv) (y_cwV 0 E.1.2.2.2.2 wm_201 wm_202 wm_203 wm_157 wm_204 (by decide +kernel) (yRm_le (by omega) (by decide))) (Nat.lt_of_lt_of_le (show 38 < 39 by decide) (by decide)) (xc_X4 (by decide) (by decide)) rfl rfl rfl (Nat.le_of_ble_eq_true rfl) dX4_readOne_99) (fun u25 hk => ?_)
    clear hv
    have hv := hk
    clear hk
    exact y_vret E dX4_readOne_102 hv
  have hb64 : ∀ (σ : Hp) (l1 : Int32), VX4_readOne_b64 (VREC f) K σ l1 → YY p l e (yRm (9 + f + 1)) s m [.ref (w.1 38), .int a1].toArray below meth c w xcf 55 A (MQ below (yQv w xcf 55 K A) [.ref (w.1 38), .int a1].toArray s 0 0 A) 2 σ 64 [(0, .ref (w.1 38)), (1, .int l1)] [] := by
    intro σ l1 hv
    unfold VX4_readOne_b64 at hv
    refine y_aload_n E dX4_readOne_64 0 rfl ?_
    refine gf_X4_2 E (by decide) (by decide) wm_180 dX4_readOne_65 ?_
    refine y_bipush (v := (-20)) E dX4_readOne_68 (by decide) ?_
    refine y_icmp_ne (tgt := 98) E dX4_readOne_70 (by decide) (fun c16 => ?_) (fun c16 => ?_)
    · replace hv := ite_f hv c16
      refine y_lv (lv' := [(0, .ref (w.1 38))]) [0] rfl ?_
      exact hb98 σ hv
    · replace hv := ite_t hv c16
      refine y_iload_n E dX4_readOne_73 1 rfl ?_
      refine y_iconst (v := 5) E dX4_readOne_74 (by decide) ?_
      refine y_icmp_ge (tgt := 98) E dX4_readOne_75 (by decide) (fun c17 => ?_) (fun c17 => ?_)
      · replace hv := ite_t hv c17
        refine y_lv (lv' := [(0, .ref (w.1 38))]) [0] rfl ?_
        exact hb98 σ hv
      · replace hv := ite_f hv c17
        refine y_aload_n E dX4_readOne_78 0 rfl ?_
        refine y_callv E (y_runV E (rest := []) (kX4_goOn l w E.2.2.1 σ _ hv) (y_cwV 0 E.1.2.2.2.2 wm_152 wm_162 wm_163 wm_157 wm_164 (by decide +kernel) (yRm_le (by omega) (by decide))) (Nat.lt_of_lt_of_le (show 38 < 39 by decide) (by decide)) (xc_X4 (by decide) (by decide)) rfl rfl rfl (Nat.le_of_ble_eq_true rfl) dX4_readOne_79) (fun u19 hk => ?_)
        clear hv
        have hv := hk
        clear hk
        refine y_aload_n E dX4_readOne_82 0 rfl ?_
        refine y_iload_n E dX4_readOne_83 1 rfl ?_
        refine y_iconst (v := 1) E dX4_readOne_84 (by decide) ?_
        refine y_iadd E dX4_readOne_85 ?_
        refine y_callv E (y_runV E (rest := []) (hF.1 _ _ (l1 + 1) hv) (y_cwV 1 E.1.2.2.2.2 wm_168 wm_173 wm_174 wm_157 wm_175 (by decide +kernel) (yRm_le (by omega) (by decide))) (Nat.lt_of_lt_of_le (show 38 < 39 by decide) (by decide)) (xc_X4 (by decide) (by decide)) rfl rfl rfl (Nat.le_of_ble_eq_true rfl) dX4_readOne_86) (fun u21 hk => ?_)
        clear hv
        have hv := hk
        clear hk
        refine y_aload_n E dX4_readOne_89 0 rfl ?_
        refine y_bipush (v := (-21)) E dX4_readOne_90 (by decide) ?_
        refine y_callv E (y_runV E (rest := []) (kX4_take l w E.2.2.1 u21 (-21) _ hv) (y_cwV 1 E.1.2.2.2.2 wm_154 wm_155 wm_156 wm_157 wm_158 (by decide +kernel) (yRm_le (by omega) (by decide))) (Nat.lt_of_lt_of_le (show 38 < 39 by decide) (by decide)) (xc_X4 (by decide) (by decide)) rfl rfl rfl (Nat.le_of_ble_eq_true rfl) dX4_readOne_92) (fun u23 hk => ?_)
        clear hv
        have hv := hk
        clear hk
        refine y_goto (tgt := 102) E dX4_readOne_95 (by decide) ?_
        exact y_vret E dX4_readOne_102 hv
  refine y_aload_n E dX4_readOne_0 0 rfl ?_
  refine gf_X4_2 E (by decide) (by decide) wm_180 dX4_readOne_1 ?_
  refine y_bipush (v := (-6)) E dX4_readOne_4 (by decide) ?_
  refine y_icmp_lt (tgt := 27) E dX4_readOne_6 (by decide) (fun c1 => ?_) (fun c1 => ?_)
  · replace hv := ite_t hv c1
    refine y_aload_n E dX4_readOne_27 0 rfl ?_
    refine gf_X4_2 E (by decide) (by decide) wm_180 dX4_readOne_28 ?_
    refine y_bipush (v := (-10)) E dX4_readOne_31 (by decide) ?_
    refine y_icmp_ne (tgt := 64) E dX4_readOne_33 (by decide) (fun c2 => ?_) (fun c2 => ?_)
    · replace hv := ite_f hv c2
      exact hb64 σ a1 hv
    · replace hv := ite_t hv c2
      refine y_iload_n E dX4_readOne_36 1 rfl ?_
      refine y_iconst (v := 5) E dX4_readOne_37 (by decide) ?_
      refine y_icmp_ge (tgt := 64) E dX4_readOne_38 (by decide) (fun c3 => ?_) (fun c3 => ?_)
      · replace hv := ite_t hv c3
        exact hb64 σ a1 hv
      · replace hv := ite_f hv c3
        refine y_aload_n E dX4_readOne_41 0 rfl ?_
        refine y_callv E (y_runV E (rest := []) (kX4_goOn l w E.2.2.1 σ _ hv) (y_cwV 0 E.1.2.2.2.2 wm_152 wm_162 wm_163 wm_157 wm_164 (by decide +kernel) (yRm_le (by omega) (by decide))) (Nat.lt_of_lt_of_le (show 38 < 39 by decide) (by decide)) (xc_X4 (by decide) (by decide)) rfl rfl rfl (Nat.le_of_ble_eq_true rfl) dX4_readOne_42) (fun u5 hk => ?_)
        clear hv
        have hv := hk
        clear hk
        refine y_aload_n E dX4_readOne_45 0 rfl ?_
        refine y_iload_n E dX4_readOne_46 1 rfl ?_
        refine y_iconst (v := 1) E dX4_readOne_47 (by decide) ?_
        refine y_iadd E dX4_readOne_48 ?_
        refine y_callv E (y_runV E (rest := []) (hF.2.2.2.2.2 _ _ (a1 + 1) hv) (y_cwV 1 E.1.2.2.2.2 wm_197 wm_198 wm_199 wm_157 wm_200 (by decide +kernel) (yRm_le (by omega) (by decide))) (Nat.lt_of_lt_of_le (show 38 < 39 by decide) (by decide)) (xc_X4 (by decide) (by decide)) rfl rfl rfl (Nat.le_of_ble_eq_true rfl) dX4_readOne_49) (fun u7 hk => ?_)
        clear hv
        have hv := hk
        clear hk
        refine y_aload_n E dX4_readOne_52 0 rfl ?_
        obtain ⟨hnn, hv⟩ := hv
        refine gf_X4_6 E (by decide) (by decide) hnn wm_148 dX4_readOne_53 ?_
        refine y_nmr (fun x8 hx8 => ?_)
        obtain ⟨hgx8, hv⟩ := hv x8 hx8
        refine y_bipush (v := (-8)) E dX4_readOne_56 (by decide) ?_
        refine y_callv E (y_runV E (rest := []) (kX9_add l w E.2.2.1 u7 x8 (-8) _ hv) (y_cwV 1 E.1.2.2.2.2 wm_181 wm_182 wm_183 wm_113 wm_184 (by decide +kernel) (yRm_le (by omega) (by decide))) (Nat.lt_of_lt_of_le hgx8.2 (by decide)) (xc_X9 hgx8.1 hgx8.2) rfl rfl rfl (Nat.le_of_ble_eq_true rfl) dX4_readOne_58) (fun u10 hk => ?_)
        clear hv
        have hv := hk
        clear hk
        refine y_goto (tgt := 102) E dX4_readOne_61 (by decide) ?_
        exact y_vret E dX4_readOne_102 hv
  · replace hv := ite_f hv c1
    refine y_aload_n E dX4_readOne_9 0 rfl ?_
    obtain ⟨hnn, hv⟩ := hv
    refine gf_X4_6 E (by decide) (by decide) hnn wm_148 dX4_readOne_10 ?_
    refine y_nmr (fun x11 hx11 => ?_)
    obtain ⟨hgx11, hv⟩ := hv x11 hx11
    refine y_aload_n E dX4_readOne_13 0 rfl ?_
    refine gf_X4_2 E (by decide) (by decide) wm_180 dX4_readOne_14 ?_
    refine y_callv E (y_runV E (rest := []) (kX9_add l w E.2.2.1 σ x11 (σ 38 2) _ hv) (y_cwV 1 E.1.2.2.2.2 wm_181 wm_182 wm_183 wm_113 wm_184 (by decide +kernel) (yRm_le (by omega) (by decide))) (Nat.lt_of_lt_of_le hgx11.2 (by decide)) (xc_X9 hgx11.1 hgx11.2) rfl rfl rfl (Nat.le_of_ble_eq_true rfl) dX4_readOne_17) (fun u13 hk => ?_)
    clear hv
    have hv := hk
    clear hk
    refine y_aload_n E dX4_readOne_20 0 rfl ?_
    refine y_callv E (y_runV E (rest := []) (kX4_goOn l w E.2.2.1 u13 _ hv) (y_cwV 0 E.1.2.2.2.2 wm_152 wm_162 wm_163 wm_157 wm_164 (by decide +kernel) (yRm_le (by omega) (by decide))) (Nat.lt_of_lt_of_le (show 38 < 39 by decide) (by decide)) (xc_X4 (by decide) (by decide)) rfl rfl rfl (Nat.le_of_ble_eq_true rfl) dX4_readOne_21) (fun u15 hk => ?_)
    clear hv
    have hv := hk
    clear hk
    refine y_goto (tgt := 102) E dX4_readOne_24 (by decide) ?_
    exact y_vret E dX4_readOne_102 hv
set_option maxHeartbeats 4000000 in
theorem kREC (l : Launch) (w : wT) (hw : yOk w 55) : ∀ f : Nat, (∀ (K : Hp → Prop) (σ : Hp) (a1 : Int32), VREC f 0 K σ a1 → yMet l w xcf 55 yX4_readOr cX4_readOr 3 none (9 + f) [.ref (w.1 38), .int a1] σ (yQv w xcf 55 K)) ∧ (∀ (K : Hp → Prop) (σ : Hp) (a1 : Int32), VREC f 1 K σ a1 → yMet l w xcf 55 yX4_readAnd cX4_readAnd 3 none (9 + f) [.ref (w.1 38), .int a1] σ (yQv w xcf 55 K)) ∧ (∀ (K : Hp → Prop) (σ : Hp) (a1 : Int32), VREC f 2 K σ a1 → yMet l w xcf 55 yX4_readNot cX4_readNot 3 none (9 + f) [.ref (w.1 38), .int a1] σ (yQv w xcf 55 K)) ∧ (∀ (K : Hp → Prop) (σ : Hp) (a1 : Int32), VREC f 3 K σ a1 → yMet l w xcf 55 yX4_readSum cX4_readSum 4 none (9 + f) [.ref (w.1 38), .int a1] σ (yQv w xcf 55 K)) ∧ (∀ (K : Hp → Prop) (σ : Hp) (a1 : Int32), VREC f 4 K σ a1 → yMet l w xcf 55 yX4_readTerm cX4_readTerm 3 none (9 + f) [.ref (w.1 38), .int a1] σ (yQv w xcf 55 K)) ∧ (∀ (K : Hp → Prop) (σ : Hp) (a1 : Int32), VREC f 5 K σ a1 → yMet l w xcf 55 yX4_readOne cX4_readOne 2 none (9 + f) [.ref (w.1 38), .int a1] σ (yQv w xcf 55 K)) := by
  intro f
  induction f with
  | zero => exact ⟨fun _ _ _ hv => (by unfold VREC at hv; exact hv.elim), fun _ _ _ hv => (by unfold VREC at hv; exact hv.elim), fun _ _ _ hv => (by unfold VREC at hv; exact hv.elim), fun _ _ _ hv => (by unfold VREC at hv; exact hv.elim), fun _ _ _ hv => (by unfold VREC at hv; exact hv.elim), fun _ _ _ hv => (by unfold VREC at hv; exact hv.elim)⟩
  | succ f ih => exact ⟨fun K σ a1 hv => kX4_readOr l w hw f ih K σ a1 (by unfold VREC at hv; simpa using hv), fun K σ a1 hv => kX4_readAnd l w hw f ih K σ a1 (by unfold VREC at hv; simpa using hv), fun K σ a1 hv => kX4_readNot l w hw f ih K σ a1 (by unfold VREC at hv; simpa using hv), fun K σ a1 hv => kX4_readSum l w hw f ih K σ a1 (by unfold VREC at hv; simpa using hv), fun K σ a1 hv => kX4_readTerm l w hw f ih K σ a1 (by unfold VREC at hv; simpa using hv), fun K σ a1 hv => kX4_readOne l w hw f ih K σ a1 (by unfold VREC at hv; simpa using hv)⟩
