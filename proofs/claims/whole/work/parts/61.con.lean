theorem dX10_init_0 : decode cX10_init 0 = .ok (.aload_n 0, 1) := by decide +kernel
theorem dX10_init_1 : decode cX10_init 1 = .ok (.invokespecial 3, 3) := by decide +kernel
theorem dX10_init_4 : decode cX10_init 4 = .ok (.return_, 1) := by decide +kernel
set_option maxRecDepth 100000 in
set_option maxHeartbeats 4000000 in
theorem kIX10_10 (l : Launch) (w : wT) (h0 : Nat) : yMetI (S := Nat → Nat) l w yX10_init cX10_init 1 1 0 0 [.ref h0] [(h0, .inr (10, []))] (fun u => [(h0, .inr (10, []))]) (fun _ => True) := by
  refine yi_start (lv0 := [(0, .ref h0)]) (by decide +kernel) (own := RX10) rfl (Nat.le_of_ble_eq_true rfl) rfl (fun p e s m below meth c A hin E => ?_)
  refine yi_aload_n E dX10_init_0 0 rfl ?_
  refine yi_objInit E wm_688 wm_689 wm_690 (by decide) (Nat.le_of_ble_eq_true rfl) dX10_init_1 ?_
  exact yi_vret E dX10_init_4 (fun k => ([] : List Nat).getD k 0) trivial rfl
set_option maxRecDepth 100000 in
set_option maxHeartbeats 4000000 in
theorem kIX10_7 (l : Launch) (w : wT) (h0 : Nat) : yMetI (S := Nat → Nat) l w yX10_init cX10_init 1 1 0 0 [.ref h0] [(h0, .inr (7, []))] (fun u => [(h0, .inr (7, []))]) (fun _ => True) := by
  refine yi_start (lv0 := [(0, .ref h0)]) (by decide +kernel) (own := RX10) rfl (Nat.le_of_ble_eq_true rfl) rfl (fun p e s m below meth c A hin E => ?_)
  refine yi_aload_n E dX10_init_0 0 rfl ?_
  refine yi_objInit E wm_688 wm_689 wm_690 (by decide) (Nat.le_of_ble_eq_true rfl) dX10_init_1 ?_
  exact yi_vret E dX10_init_4 (fun k => ([] : List Nat).getD k 0) trivial rfl
set_option maxRecDepth 100000 in
set_option maxHeartbeats 4000000 in
theorem kIX10_5 (l : Launch) (w : wT) (h0 : Nat) : yMetI (S := Nat → Nat) l w yX10_init cX10_init 1 1 0 0 [.ref h0] [(h0, .inr (5, []))] (fun u => [(h0, .inr (5, []))]) (fun _ => True) := by
  refine yi_start (lv0 := [(0, .ref h0)]) (by decide +kernel) (own := RX10) rfl (Nat.le_of_ble_eq_true rfl) rfl (fun p e s m below meth c A hin E => ?_)
  refine yi_aload_n E dX10_init_0 0 rfl ?_
  refine yi_objInit E wm_688 wm_689 wm_690 (by decide) (Nat.le_of_ble_eq_true rfl) dX10_init_1 ?_
  exact yi_vret E dX10_init_4 (fun k => ([] : List Nat).getD k 0) trivial rfl
set_option maxRecDepth 100000 in
set_option maxHeartbeats 4000000 in
theorem kIX10_8 (l : Launch) (w : wT) (h0 : Nat) : yMetI (S := Nat → Nat) l w yX10_init cX10_init 1 1 0 0 [.ref h0] [(h0, .inr (8, []))] (fun u => [(h0, .inr (8, []))]) (fun _ => True) := by
  refine yi_start (lv0 := [(0, .ref h0)]) (by decide +kernel) (own := RX10) rfl (Nat.le_of_ble_eq_true rfl) rfl (fun p e s m below meth c A hin E => ?_)
  refine yi_aload_n E dX10_init_0 0 rfl ?_
  refine yi_objInit E wm_688 wm_689 wm_690 (by decide) (Nat.le_of_ble_eq_true rfl) dX10_init_1 ?_
  exact yi_vret E dX10_init_4 (fun k => ([] : List Nat).getD k 0) trivial rfl
set_option maxRecDepth 100000 in
set_option maxHeartbeats 4000000 in
theorem kIX10_0 (l : Launch) (w : wT) (h0 : Nat) : yMetI (S := Nat → Nat) l w yX10_init cX10_init 1 1 0 0 [.ref h0] [(h0, .inr (0, []))] (fun u => [(h0, .inr (0, []))]) (fun _ => True) := by
  refine yi_start (lv0 := [(0, .ref h0)]) (by decide +kernel) (own := RX10) rfl (Nat.le_of_ble_eq_true rfl) rfl (fun p e s m below meth c A hin E => ?_)
  refine yi_aload_n E dX10_init_0 0 rfl ?_
  refine yi_objInit E wm_688 wm_689 wm_690 (by decide) (Nat.le_of_ble_eq_true rfl) dX10_init_1 ?_
  exact yi_vret E dX10_init_4 (fun k => ([] : List Nat).getD k 0) trivial rfl
set_option maxRecDepth 100000 in
set_option maxHeartbeats 4000000 in
theorem kIX10_2 (l : Launch) (w : wT) (h0 : Nat) : yMetI (S := Nat → Nat) l w yX10_init cX10_init 1 1 0 0 [.ref h0] [(h0, .inr (2, []))] (fun u => [(h0, .inr (2, []))]) (fun _ => True) := by
  refine yi_start (lv0 := [(0, .ref h0)]) (by decide +kernel) (own := RX10) rfl (Nat.le_of_ble_eq_true rfl) rfl (fun p e s m below meth c A hin E => ?_)
  refine yi_aload_n E dX10_init_0 0 rfl ?_
  refine yi_objInit E wm_688 wm_689 wm_690 (by decide) (Nat.le_of_ble_eq_true rfl) dX10_init_1 ?_
  exact yi_vret E dX10_init_4 (fun k => ([] : List Nat).getD k 0) trivial rfl
theorem dX7_init_0 : decode cX7_init 0 = .ok (.aload_n 0, 1) := by decide +kernel
theorem dX7_init_1 : decode cX7_init 1 = .ok (.invokespecial 3, 3) := by decide +kernel
theorem dX7_init_4 : decode cX7_init 4 = .ok (.return_, 1) := by decide +kernel
set_option maxRecDepth 100000 in
set_option maxHeartbeats 4000000 in
theorem kIX7_7 (l : Launch) (w : wT) (h0 : Nat) : yMetI (S := Nat → Nat) l w yX7_init cX7_init 1 2 0 0 [.ref h0] [(h0, .inr (7, []))] (fun u => [(h0, .inr (7, []))]) (fun _ => True) := by
  refine yi_start (lv0 := [(0, .ref h0)]) (by decide +kernel) (own := RX7) rfl (Nat.le_of_ble_eq_true rfl) rfl (fun p e s m below meth c A hin E => ?_)
  refine yi_aload_n E dX7_init_0 0 rfl ?_
  refine yi_initN (wsR := []) E [0] [] (kIX10_7 l w h0) ⟨va_cnB (host := RX11) 0 E.1.2.2.2.2 (gI wm_692) rfl rfl rfl (nw_9 E.2.1.2.1.1) (E.1.2.2.2.2 _ wm_93) (by decide +kernel) ⟨Nat.le_of_ble_eq_true rfl, Nat.le_of_ble_eq_true rfl⟩, rfl, E.1.2.2.2.2 _ wm_691⟩ rfl rfl rfl rfl rfl (by decide) rfl rfl (Nat.le_of_ble_eq_true rfl) ⟨Nat.le_of_ble_eq_true rfl, Nat.le_of_ble_eq_true rfl⟩ dX7_init_1 (fun u1 _ => ?_)
  refine yi_eq (ws' := [(h0, .inr (7, []))]) rfl ?_
  exact yi_vret E dX7_init_4 (fun k => ([] : List Nat).getD k 0) trivial rfl
set_option maxRecDepth 100000 in
set_option maxHeartbeats 4000000 in
theorem kIX7_8 (l : Launch) (w : wT) (h0 : Nat) : yMetI (S := Nat → Nat) l w yX7_init cX7_init 1 2 0 0 [.ref h0] [(h0, .inr (8, []))] (fun u => [(h0, .inr (8, []))]) (fun _ => True) := by
  refine yi_start (lv0 := [(0, .ref h0)]) (by decide +kernel) (own := RX7) rfl (Nat.le_of_ble_eq_true rfl) rfl (fun p e s m below meth c A hin E => ?_)
  refine yi_aload_n E dX7_init_0 0 rfl ?_
  refine yi_initN (wsR := []) E [0] [] (kIX10_8 l w h0) ⟨va_cnB (host := RX11) 0 E.1.2.2.2.2 (gI wm_692) rfl rfl rfl (nw_9 E.2.1.2.1.1) (E.1.2.2.2.2 _ wm_93) (by decide +kernel) ⟨Nat.le_of_ble_eq_true rfl, Nat.le_of_ble_eq_true rfl⟩, rfl, E.1.2.2.2.2 _ wm_691⟩ rfl rfl rfl rfl rfl (by decide) rfl rfl (Nat.le_of_ble_eq_true rfl) ⟨Nat.le_of_ble_eq_true rfl, Nat.le_of_ble_eq_true rfl⟩ dX7_init_1 (fun u1 _ => ?_)
  refine yi_eq (ws' := [(h0, .inr (8, []))]) rfl ?_
  exact yi_vret E dX7_init_4 (fun k => ([] : List Nat).getD k 0) trivial rfl
theorem dX5_init_0 : decode cX5_init 0 = .ok (.aload_n 0, 1) := by decide +kernel
theorem dX5_init_1 : decode cX5_init 1 = .ok (.invokespecial 1, 3) := by decide +kernel
theorem dX5_init_4 : decode cX5_init 4 = .ok (.return_, 1) := by decide +kernel
set_option maxRecDepth 100000 in
set_option maxHeartbeats 4000000 in
theorem kIX5_5 (l : Launch) (w : wT) (h0 : Nat) : yMetI (S := Nat → Nat) l w yX5_init cX5_init 1 2 0 0 [.ref h0] [(h0, .inr (5, []))] (fun u => [(h0, .inr (5, []))]) (fun _ => True) := by
  refine yi_start (lv0 := [(0, .ref h0)]) (by decide +kernel) (own := RX5) rfl (Nat.le_of_ble_eq_true rfl) rfl (fun p e s m below meth c A hin E => ?_)
  refine yi_aload_n E dX5_init_0 0 rfl ?_
  refine yi_initN (wsR := []) E [0] [] (kIX10_5 l w h0) ⟨va_cnB (host := RX11) 0 E.1.2.2.2.2 (gI wm_692) rfl rfl rfl (nw_10 E.2.1.2.1.1) (E.1.2.2.2.2 _ wm_93) (by decide +kernel) ⟨Nat.le_of_ble_eq_true rfl, Nat.le_of_ble_eq_true rfl⟩, rfl, E.1.2.2.2.2 _ wm_691⟩ rfl rfl rfl rfl rfl (by decide) rfl rfl (Nat.le_of_ble_eq_true rfl) ⟨Nat.le_of_ble_eq_true rfl, Nat.le_of_ble_eq_true rfl⟩ dX5_init_1 (fun u1 _ => ?_)
  refine yi_eq (ws' := [(h0, .inr (5, []))]) rfl ?_
  exact yi_vret E dX5_init_4 (fun k => ([] : List Nat).getD k 0) trivial rfl
set_option maxRecDepth 100000 in
set_option maxHeartbeats 4000000 in
theorem kIX5_0 (l : Launch) (w : wT) (h0 : Nat) : yMetI (S := Nat → Nat) l w yX5_init cX5_init 1 2 0 0 [.ref h0] [(h0, .inr (0, []))] (fun u => [(h0, .inr (0, []))]) (fun _ => True) := by
  refine yi_start (lv0 := [(0, .ref h0)]) (by decide +kernel) (own := RX5) rfl (Nat.le_of_ble_eq_true rfl) rfl (fun p e s m below meth c A hin E => ?_)
  refine yi_aload_n E dX5_init_0 0 rfl ?_
  refine yi_initN (wsR := []) E [0] [] (kIX10_0 l w h0) ⟨va_cnB (host := RX11) 0 E.1.2.2.2.2 (gI wm_692) rfl rfl rfl (nw_10 E.2.1.2.1.1) (E.1.2.2.2.2 _ wm_93) (by decide +kernel) ⟨Nat.le_of_ble_eq_true rfl, Nat.le_of_ble_eq_true rfl⟩, rfl, E.1.2.2.2.2 _ wm_691⟩ rfl rfl rfl rfl rfl (by decide) rfl rfl (Nat.le_of_ble_eq_true rfl) ⟨Nat.le_of_ble_eq_true rfl, Nat.le_of_ble_eq_true rfl⟩ dX5_init_1 (fun u1 _ => ?_)
  refine yi_eq (ws' := [(h0, .inr (0, []))]) rfl ?_
  exact yi_vret E dX5_init_4 (fun k => ([] : List Nat).getD k 0) trivial rfl
theorem dX8_init_0 : decode cX8_init 0 = .ok (.aload_n 0, 1) := by decide +kernel
theorem dX8_init_1 : decode cX8_init 1 = .ok (.invokespecial 1, 3) := by decide +kernel
theorem dX8_init_4 : decode cX8_init 4 = .ok (.return_, 1) := by decide +kernel
set_option maxRecDepth 100000 in
set_option maxHeartbeats 4000000 in
theorem kIX8_8 (l : Launch) (w : wT) (h0 : Nat) : yMetI (S := Nat → Nat) l w yX8_init cX8_init 1 3 0 0 [.ref h0] [(h0, .inr (8, []))] (fun u => [(h0, .inr (8, []))]) (fun _ => True) := by
  refine yi_start (lv0 := [(0, .ref h0)]) (by decide +kernel) (own := RX8) rfl (Nat.le_of_ble_eq_true rfl) rfl (fun p e s m below meth c A hin E => ?_)
  refine yi_aload_n E dX8_init_0 0 rfl ?_
  refine yi_initN (wsR := []) E [0] [] (kIX7_8 l w h0) ⟨va_cnB (host := RX11) 0 E.1.2.2.2.2 (gI wm_694) rfl rfl rfl (nw_12 E.2.1.2.1.1) (E.1.2.2.2.2 _ wm_239) (by decide +kernel) ⟨Nat.le_of_ble_eq_true rfl, Nat.le_of_ble_eq_true rfl⟩, rfl, E.1.2.2.2.2 _ wm_693⟩ rfl rfl rfl rfl rfl (by decide) rfl rfl (Nat.le_of_ble_eq_true rfl) ⟨Nat.le_of_ble_eq_true rfl, Nat.le_of_ble_eq_true rfl⟩ dX8_init_1 (fun u1 _ => ?_)
  refine yi_eq (ws' := [(h0, .inr (8, []))]) rfl ?_
  exact yi_vret E dX8_init_4 (fun k => ([] : List Nat).getD k 0) trivial rfl
theorem dX0_init_0 : decode cX0_init 0 = .ok (.aload_n 0, 1) := by decide +kernel
theorem dX0_init_1 : decode cX0_init 1 = .ok (.invokespecial 3, 3) := by decide +kernel
theorem dX0_init_4 : decode cX0_init 4 = .ok (.return_, 1) := by decide +kernel
set_option maxRecDepth 100000 in
set_option maxHeartbeats 4000000 in
theorem kIX0_0 (l : Launch) (w : wT) (h0 : Nat) : yMetI (S := Nat → Nat) l w yX0_init cX0_init 1 3 0 0 [.ref h0] [(h0, .inr (0, []))] (fun u => [(h0, .inr (0, []))]) (fun _ => True) := by
  refine yi_start (lv0 := [(0, .ref h0)]) (by decide +kernel) (own := RX0) rfl (Nat.le_of_ble_eq_true rfl) rfl (fun p e s m below meth c A hin E => ?_)
  refine yi_aload_n E dX0_init_0 0 rfl ?_
  refine yi_initN (wsR := []) E [0] [] (kIX5_0 l w h0) ⟨va_cnB (host := RX11) 0 E.1.2.2.2.2 (gI wm_696) rfl rfl rfl (nw_13 E.2.1.2.1.1) (E.1.2.2.2.2 _ wm_87) (by decide +kernel) ⟨Nat.le_of_ble_eq_true rfl, Nat.le_of_ble_eq_true rfl⟩, rfl, E.1.2.2.2.2 _ wm_695⟩ rfl rfl rfl rfl rfl (by decide) rfl rfl (Nat.le_of_ble_eq_true rfl) ⟨Nat.le_of_ble_eq_true rfl, Nat.le_of_ble_eq_true rfl⟩ dX0_init_1 (fun u1 _ => ?_)
  refine yi_eq (ws' := [(h0, .inr (0, []))]) rfl ?_
  exact yi_vret E dX0_init_4 (fun k => ([] : List Nat).getD k 0) trivial rfl
theorem dX2_init_0 : decode cX2_init 0 = .ok (.aload_n 0, 1) := by decide +kernel
theorem dX2_init_1 : decode cX2_init 1 = .ok (.invokespecial 3, 3) := by decide +kernel
theorem dX2_init_4 : decode cX2_init 4 = .ok (.return_, 1) := by decide +kernel
set_option maxRecDepth 100000 in
set_option maxHeartbeats 4000000 in
theorem kIX2_2 (l : Launch) (w : wT) (h0 : Nat) : yMetI (S := Nat → Nat) l w yX2_init cX2_init 1 2 0 0 [.ref h0] [(h0, .inr (2, []))] (fun u => [(h0, .inr (2, []))]) (fun _ => True) := by
  refine yi_start (lv0 := [(0, .ref h0)]) (by decide +kernel) (own := RX2) rfl (Nat.le_of_ble_eq_true rfl) rfl (fun p e s m below meth c A hin E => ?_)
  refine yi_aload_n E dX2_init_0 0 rfl ?_
  refine yi_initN (wsR := []) E [0] [] (kIX10_2 l w h0) ⟨va_cnB (host := RX11) 0 E.1.2.2.2.2 (gI wm_692) rfl rfl rfl (nw_11 E.2.1.2.1.1) (E.1.2.2.2.2 _ wm_93) (by decide +kernel) ⟨Nat.le_of_ble_eq_true rfl, Nat.le_of_ble_eq_true rfl⟩, rfl, E.1.2.2.2.2 _ wm_691⟩ rfl rfl rfl rfl rfl (by decide) rfl rfl (Nat.le_of_ble_eq_true rfl) ⟨Nat.le_of_ble_eq_true rfl, Nat.le_of_ble_eq_true rfl⟩ dX2_init_1 (fun u1 _ => ?_)
  refine yi_eq (ws' := [(h0, .inr (2, []))]) rfl ?_
  exact yi_vret E dX2_init_4 (fun k => ([] : List Nat).getD k 0) trivial rfl
theorem dX3_init_0 : decode cX3_init 0 = .ok (.aload_n 0, 1) := by decide +kernel
theorem dX3_init_1 : decode cX3_init 1 = .ok (.invokespecial 3, 3) := by decide +kernel
theorem dX3_init_4 : decode cX3_init 4 = .ok (.aload_n 0, 1) := by decide +kernel
theorem dX3_init_5 : decode cX3_init 5 = .ok (.iconst 5, 1) := by decide +kernel
theorem dX3_init_6 : decode cX3_init 6 = .ok (.newarray .int, 2) := by decide +kernel
theorem dX3_init_8 : decode cX3_init 8 = .ok (.putfield 9, 3) := by decide +kernel
theorem dX3_init_11 : decode cX3_init 11 = .ok (.aload_n 0, 1) := by decide +kernel
theorem dX3_init_12 : decode cX3_init 12 = .ok (.iconst 5, 1) := by decide +kernel
theorem dX3_init_13 : decode cX3_init 13 = .ok (.newarray .int, 2) := by decide +kernel
theorem dX3_init_15 : decode cX3_init 15 = .ok (.putfield 15, 3) := by decide +kernel
theorem dX3_init_18 : decode cX3_init 18 = .ok (.aload_n 0, 1) := by decide +kernel
theorem dX3_init_19 : decode cX3_init 19 = .ok (.iconst 5, 1) := by decide +kernel
theorem dX3_init_20 : decode cX3_init 20 = .ok (.newarray .int, 2) := by decide +kernel
theorem dX3_init_22 : decode cX3_init 22 = .ok (.putfield 18, 3) := by decide +kernel
theorem dX3_init_25 : decode cX3_init 25 = .ok (.aload_n 0, 1) := by decide +kernel
theorem dX3_init_26 : decode cX3_init 26 = .ok (.iconst 5, 1) := by decide +kernel
theorem dX3_init_27 : decode cX3_init 27 = .ok (.newarray .int, 2) := by decide +kernel
theorem dX3_init_29 : decode cX3_init 29 = .ok (.putfield 21, 3) := by decide +kernel
theorem dX3_init_32 : decode cX3_init 32 = .ok (.return_, 1) := by decide +kernel
set_option maxRecDepth 100000 in
set_option maxHeartbeats 4000000 in
theorem kIX3_3 (l : Launch) (w : wT) (h0 : Nat) : yMetI (S := Nat → Nat) l w yX3_init cX3_init 1 1 4 20 [.ref h0] [(h0, .inr (3, [.int 0, .int 0, .int 0, .int 0, .int 0, .int 0, .null, .null, .null, .null]))] (fun u => [(h0, .inr (3, [.int 0, .int 0, .int 0, .int 0, .int 0, .int 0, .ref (u 0), .ref (u 1), .ref (u 2), .ref (u 3)])), ((u 0), .inl (w.2.1 1, 5, .inl (fun _ => 0))), ((u 1), .inl (w.2.1 1, 5, .inl (fun _ => 0))), ((u 2), .inl (w.2.1 1, 5, .inl (fun _ => 0))), ((u 3), .inl (w.2.1 1, 5, .inl (fun _ => 0)))]) (fun _ => True) := by
  refine yi_start (lv0 := [(0, .ref h0)]) (by decide +kernel) (own := RX3) rfl (Nat.le_of_ble_eq_true rfl) rfl (fun p e s m below meth c A hin E => ?_)
  refine yi_aload_n E dX3_init_0 0 rfl ?_
  refine yi_objInit E wm_697 wm_689 wm_690 (by decide) (Nat.le_of_ble_eq_true rfl) dX3_init_1 ?_
  refine yi_aload_n E dX3_init_4 0 rfl ?_
  refine yi_iconst (v := 5) E dX3_init_5 (by decide) ?_
  refine yi_newaI (N' := 5) E wm_698 (by decide) (by decide) (Nat.le_of_ble_eq_true rfl) ⟨Nat.le_of_ble_eq_true rfl, Nat.le_of_ble_eq_true rfl⟩ dX3_init_6 (fun q1 => ?_)
  refine yi_eq (ws' := [(h0, .inr (3, [.int 0, .int 0, .int 0, .int 0, .int 0, .int 0, .null, .null, .null, .null])), (q1, .inl (w.2.1 1, 5, .inl (fun _ => 0)))]) rfl ?_
  refine yi_putF (q := 0) (ci := 3) (k := 6) (N := 10) (C := RX3) (T := TX3) (v := .ref q1) (ty := (.array .int)) (ws' := [(h0, .inr (3, [.int 0, .int 0, .int 0, .int 0, .int 0, .int 0, .ref q1, .null, .null, .null])), (q1, .inl (w.2.1 1, 5, .inl (fun _ => 0)))]) E rfl rfl wu_X3 tyX3 tyX3_ok nmX3 (by decide) wm_138 rfl hin rfl (by decide +kernel) rfl rfl (Nat.le_of_ble_eq_true rfl) rfl dX3_init_8 ?_
  refine yi_aload_n E dX3_init_11 0 rfl ?_
  refine yi_iconst (v := 5) E dX3_init_12 (by decide) ?_
  refine yi_newaI (N' := 5) E wm_698 (by decide) (by decide) (Nat.le_of_ble_eq_true rfl) ⟨Nat.le_of_ble_eq_true rfl, Nat.le_of_ble_eq_true rfl⟩ dX3_init_13 (fun q2 => ?_)
  refine yi_eq (ws' := [(h0, .inr (3, [.int 0, .int 0, .int 0, .int 0, .int 0, .int 0, .ref q1, .null, .null, .null])), (q1, .inl (w.2.1 1, 5, .inl (fun _ => 0))), (q2, .inl (w.2.1 1, 5, .inl (fun _ => 0)))]) rfl ?_
  refine yi_putF (q := 0) (ci := 3) (k := 7) (N := 10) (C := RX3) (T := TX3) (v := .ref q2) (ty := (.array .int)) (ws' := [(h0, .inr (3, [.int 0, .int 0, .int 0, .int 0, .int 0, .int 0, .ref q1, .ref q2, .null, .null])), (q1, .inl (w.2.1 1, 5, .inl (fun _ => 0))), (q2, .inl (w.2.1 1, 5, .inl (fun _ => 0)))]) E rfl rfl wu_X3 tyX3 tyX3_ok nmX3 (by decide) wm_140 rfl hin rfl (by decide +kernel) rfl rfl (Nat.le_of_ble_eq_true rfl) rfl dX3_init_15 ?_
  refine yi_aload_n E dX3_init_18 0 rfl ?_
  refine yi_iconst (v := 5) E dX3_init_19 (by decide) ?_
  refine yi_newaI (N' := 5) E wm_698 (by decide) (by decide) (Nat.le_of_ble_eq_true rfl) ⟨Nat.le_of_ble_eq_true rfl, Nat.le_of_ble_eq_true rfl⟩ dX3_init_20 (fun q3 => ?_)
  refine yi_eq (ws' := [(h0, .inr (3, [.int 0, .int 0, .int 0, .int 0, .int 0, .int 0, .ref q1, .ref q2, .null, .null])), (q1, .inl (w.2.1 1, 5, .inl (fun _ => 0))), (q2, .inl (w.2.1 1, 5, .inl (fun _ => 0))), (q3, .inl (w.2.1 1, 5, .inl (fun _ => 0)))]) rfl ?_
  refine yi_putF (q := 0) (ci := 3) (k := 8) (N := 10) (C := RX3) (T := TX3) (v := .ref q3) (ty := (.array .int)) (ws' := [(h0, .inr (3, [.int 0, .int 0, .int 0, .int 0, .int 0, .int 0, .ref q1, .ref q2, .ref q3, .null])), (q1, .inl (w.2.1 1, 5, .inl (fun _ => 0))), (q2, .inl (w.2.1 1, 5, .inl (fun _ => 0))), (q3, .inl (w.2.1 1, 5, .inl (fun _ => 0)))]) E rfl rfl wu_X3 tyX3 tyX3_ok nmX3 (by decide) wm_141 rfl hin rfl (by decide +kernel) rfl rfl (Nat.le_of_ble_eq_true rfl) rfl dX3_init_22 ?_
  refine yi_aload_n E dX3_init_25 0 rfl ?_
  refine yi_iconst (v := 5) E dX3_init_26 (by decide) ?_
  refine yi_newaI (N' := 5) E wm_698 (by decide) (by decide) (Nat.le_of_ble_eq_true rfl) ⟨Nat.le_of_ble_eq_true rfl, Nat.le_of_ble_eq_true rfl⟩ dX3_init_27 (fun q4 => ?_)
  refine yi_eq (ws' := [(h0, .inr (3, [.int 0, .int 0, .int 0, .int 0, .int 0, .int 0, .ref q1, .ref q2, .ref q3, .null])), (q1, .inl (w.2.1 1, 5, .inl (fun _ => 0))), (q2, .inl (w.2.1 1, 5, .inl (fun _ => 0))), (q3, .inl (w.2.1 1, 5, .inl (fun _ => 0))), (q4, .inl (w.2.1 1, 5, .inl (fun _ => 0)))]) rfl ?_
  refine yi_putF (q := 0) (ci := 3) (k := 9) (N := 10) (C := RX3) (T := TX3) (v := .ref q4) (ty := (.array .int)) (ws' := [(h0, .inr (3, [.int 0, .int 0, .int 0, .int 0, .int 0, .int 0, .ref q1, .ref q2, .ref q3, .ref q4])), (q1, .inl (w.2.1 1, 5, .inl (fun _ => 0))), (q2, .inl (w.2.1 1, 5, .inl (fun _ => 0))), (q3, .inl (w.2.1 1, 5, .inl (fun _ => 0))), (q4, .inl (w.2.1 1, 5, .inl (fun _ => 0)))]) E rfl rfl wu_X3 tyX3 tyX3_ok nmX3 (by decide) wm_142 rfl hin rfl (by decide +kernel) rfl rfl (Nat.le_of_ble_eq_true rfl) rfl dX3_init_29 ?_
  exact yi_vret E dX3_init_32 (fun k => ([q1, q2, q3, q4] : List Nat).getD k 0) trivial rfl
theorem dX4_init_0 : decode cX4_init 0 = .ok (.aload_n 0, 1) := by decide +kernel
theorem dX4_init_1 : decode cX4_init 1 = .ok (.invokespecial 3, 3) := by decide +kernel
theorem dX4_init_4 : decode cX4_init 4 = .ok (.aload_n 0, 1) := by decide +kernel
theorem dX4_init_5 : decode cX4_init 5 = .ok (.sipush 160, 3) := by decide +kernel
theorem dX4_init_8 : decode cX4_init 8 = .ok (.newarray .byte, 2) := by decide +kernel
theorem dX4_init_10 : decode cX4_init 10 = .ok (.putfield 9, 3) := by decide +kernel
theorem dX4_init_13 : decode cX4_init 13 = .ok (.return_, 1) := by decide +kernel
set_option maxRecDepth 100000 in
set_option maxHeartbeats 4000000 in
theorem kIX4_4 (l : Launch) (w : wT) (h0 : Nat) : yMetI (S := Nat → Nat) l w yX4_init cX4_init 1 1 1 160 [.ref h0] [(h0, .inr (4, [.null, .int 0, .int 0, .int 0, .int 0, .int 0, .null]))] (fun u => [(h0, .inr (4, [.ref (u 0), .int 0, .int 0, .int 0, .int 0, .int 0, .null])), ((u 0), .inl (w.2.1 0, 160, .inl (fun _ => 0)))]) (fun _ => True) := by
  refine yi_start (lv0 := [(0, .ref h0)]) (by decide +kernel) (own := RX4) rfl (Nat.le_of_ble_eq_true rfl) rfl (fun p e s m below meth c A hin E => ?_)
  refine yi_aload_n E dX4_init_0 0 rfl ?_
  refine yi_objInit E wm_699 wm_689 wm_690 (by decide) (Nat.le_of_ble_eq_true rfl) dX4_init_1 ?_
  refine yi_aload_n E dX4_init_4 0 rfl ?_
  refine yi_sipush (v := 160) E dX4_init_5 (by decide) ?_
  refine yi_newaB (N' := 160) E wm_700 (by decide) (by decide) (Nat.le_of_ble_eq_true rfl) ⟨Nat.le_of_ble_eq_true rfl, Nat.le_of_ble_eq_true rfl⟩ dX4_init_8 (fun q1 => ?_)
  refine yi_eq (ws' := [(h0, .inr (4, [.null, .int 0, .int 0, .int 0, .int 0, .int 0, .null])), (q1, .inl (w.2.1 0, 160, .inl (fun _ => 0)))]) rfl ?_
  refine yi_putF (q := 0) (ci := 4) (k := 0) (N := 7) (C := RX4) (T := TX4) (v := .ref q1) (ty := (.array .byte)) (ws' := [(h0, .inr (4, [.ref q1, .int 0, .int 0, .int 0, .int 0, .int 0, .null])), (q1, .inl (w.2.1 0, 160, .inl (fun _ => 0)))]) E rfl rfl wu_X4 tyX4 tyX4_ok nmX4 (by decide) wm_147 rfl hin rfl (by decide +kernel) rfl rfl (Nat.le_of_ble_eq_true rfl) rfl dX4_init_10 ?_
  exact yi_vret E dX4_init_13 (fun k => ([q1] : List Nat).getD k 0) trivial rfl
theorem dX6_init_0 : decode cX6_init 0 = .ok (.aload_n 0, 1) := by decide +kernel
theorem dX6_init_1 : decode cX6_init 1 = .ok (.invokespecial 3, 3) := by decide +kernel
theorem dX6_init_4 : decode cX6_init 4 = .ok (.aload_n 0, 1) := by decide +kernel
theorem dX6_init_5 : decode cX6_init 5 = .ok (.bipush 40, 2) := by decide +kernel
theorem dX6_init_7 : decode cX6_init 7 = .ok (.newarray .int, 2) := by decide +kernel
theorem dX6_init_9 : decode cX6_init 9 = .ok (.putfield 9, 3) := by decide +kernel
theorem dX6_init_12 : decode cX6_init 12 = .ok (.aload_n 0, 1) := by decide +kernel
theorem dX6_init_13 : decode cX6_init 13 = .ok (.iconst (-1), 1) := by decide +kernel
theorem dX6_init_14 : decode cX6_init 14 = .ok (.putfield 15, 3) := by decide +kernel
theorem dX6_init_17 : decode cX6_init 17 = .ok (.return_, 1) := by decide +kernel
set_option maxRecDepth 100000 in
set_option maxHeartbeats 4000000 in
theorem kIX6_6 (l : Launch) (w : wT) (h0 : Nat) : yMetI (S := Nat → Nat) l w yX6_init cX6_init 1 1 1 40 [.ref h0] [(h0, .inr (6, [.null, .int 0, .int 0]))] (fun u => [(h0, .inr (6, [.ref (u 0), .int (-1), .int 0])), ((u 0), .inl (w.2.1 1, 40, .inl (fun _ => 0)))]) (fun _ => True) := by
  refine yi_start (lv0 := [(0, .ref h0)]) (by decide +kernel) (own := RX6) rfl (Nat.le_of_ble_eq_true rfl) rfl (fun p e s m below meth c A hin E => ?_)
  refine yi_aload_n E dX6_init_0 0 rfl ?_
  refine yi_objInit E wm_701 wm_689 wm_690 (by decide) (Nat.le_of_ble_eq_true rfl) dX6_init_1 ?_
  refine yi_aload_n E dX6_init_4 0 rfl ?_
  refine yi_bipush (v := 40) E dX6_init_5 (by decide) ?_
  refine yi_newaI (N' := 40) E wm_698 (by decide) (by decide) (Nat.le_of_ble_eq_true rfl) ⟨Nat.le_of_ble_eq_true rfl, Nat.le_of_ble_eq_true rfl⟩ dX6_init_7 (fun q1 => ?_)
  refine yi_eq (ws' := [(h0, .inr (6, [.null, .int 0, .int 0])), (q1, .inl (w.2.1 1, 40, .inl (fun _ => 0)))]) rfl ?_
  refine yi_putF (q := 0) (ci := 6) (k := 0) (N := 3) (C := RX6) (T := TX6) (v := .ref q1) (ty := (.array .int)) (ws' := [(h0, .inr (6, [.ref q1, .int 0, .int 0])), (q1, .inl (w.2.1 1, 40, .inl (fun _ => 0)))]) E rfl rfl wu_X6 tyX6 tyX6_ok nmX6 (by decide) wm_232 rfl hin rfl (by decide +kernel) rfl rfl (Nat.le_of_ble_eq_true rfl) rfl dX6_init_9 ?_
  refine yi_aload_n E dX6_init_12 0 rfl ?_
  refine yi_iconst (v := (-1)) E dX6_init_13 (by decide) ?_
  refine yi_put (q := 0) (ci := 6) (k := 1) (N := 3) (C := RX6) (T := TX6) (v := .int (-1)) (ty := .int) (ws' := [(h0, .inr (6, [.ref q1, .int (-1), .int 0])), (q1, .inl (w.2.1 1, 40, .inl (fun _ => 0)))]) E rfl rfl wu_X6 tyX6 tyX6_ok nmX6 (by decide) wm_230 rfl (by decide +kernel) rfl rfl (Nat.le_of_ble_eq_true rfl) rfl dX6_init_14 ?_
  exact yi_vret E dX6_init_17 (fun k => ([q1] : List Nat).getD k 0) trivial rfl
theorem dX9_init_0 : decode cX9_init 0 = .ok (.aload_n 0, 1) := by decide +kernel
theorem dX9_init_1 : decode cX9_init 1 = .ok (.invokespecial 3, 3) := by decide +kernel
theorem dX9_init_4 : decode cX9_init 4 = .ok (.aload_n 0, 1) := by decide +kernel
theorem dX9_init_5 : decode cX9_init 5 = .ok (.sipush 160, 3) := by decide +kernel
theorem dX9_init_8 : decode cX9_init 8 = .ok (.newarray .int, 2) := by decide +kernel
theorem dX9_init_10 : decode cX9_init 10 = .ok (.putfield 9, 3) := by decide +kernel
theorem dX9_init_13 : decode cX9_init 13 = .ok (.aload_n 0, 1) := by decide +kernel
theorem dX9_init_14 : decode cX9_init 14 = .ok (.iconst 4, 1) := by decide +kernel
theorem dX9_init_15 : decode cX9_init 15 = .ok (.newarray .int, 2) := by decide +kernel
theorem dX9_init_17 : decode cX9_init 17 = .ok (.putfield 15, 3) := by decide +kernel
theorem dX9_init_20 : decode cX9_init 20 = .ok (.aload_n 0, 1) := by decide +kernel
theorem dX9_init_21 : decode cX9_init 21 = .ok (.aload_n 1, 1) := by decide +kernel
theorem dX9_init_22 : decode cX9_init 22 = .ok (.putfield 18, 3) := by decide +kernel
theorem dX9_init_25 : decode cX9_init 25 = .ok (.return_, 1) := by decide +kernel
set_option maxRecDepth 100000 in
set_option maxHeartbeats 4000000 in
theorem kIX9_9 (l : Launch) (w : wT) (h0 h1 : Nat) : yMetI (S := Nat → Nat) l w yX9_init cX9_init 2 1 2 164 [.ref h0, .ref h1] [(h0, .inr (9, [.null, .null, .null, .int 0, .int 0]))] (fun u => [(h0, .inr (9, [.ref (u 0), .ref (u 1), .ref h1, .int 0, .int 0])), ((u 0), .inl (w.2.1 1, 160, .inl (fun _ => 0))), ((u 1), .inl (w.2.1 1, 4, .inl (fun _ => 0)))]) (fun _ => True) := by
  refine yi_start (lv0 := [(0, .ref h0), (1, .ref h1)]) (by decide +kernel) (own := RX9) rfl (Nat.le_of_ble_eq_true rfl) rfl (fun p e s m below meth c A hin E => ?_)
  refine yi_aload_n E dX9_init_0 0 rfl ?_
  refine yi_objInit E wm_702 wm_689 wm_690 (by decide) (Nat.le_of_ble_eq_true rfl) dX9_init_1 ?_
  refine yi_aload_n E dX9_init_4 0 rfl ?_
  refine yi_sipush (v := 160) E dX9_init_5 (by decide) ?_
  refine yi_newaI (N' := 160) E wm_698 (by decide) (by decide) (Nat.le_of_ble_eq_true rfl) ⟨Nat.le_of_ble_eq_true rfl, Nat.le_of_ble_eq_true rfl⟩ dX9_init_8 (fun q1 => ?_)
  refine yi_eq (ws' := [(h0, .inr (9, [.null, .null, .null, .int 0, .int 0])), (q1, .inl (w.2.1 1, 160, .inl (fun _ => 0)))]) rfl ?_
  refine yi_putF (q := 0) (ci := 9) (k := 0) (N := 5) (C := RX9) (T := TX9) (v := .ref q1) (ty := (.array .int)) (ws' := [(h0, .inr (9, [.ref q1, .null, .null, .int 0, .int 0])), (q1, .inl (w.2.1 1, 160, .inl (fun _ => 0)))]) E rfl rfl wu_X9 tyX9 tyX9_ok nmX9 (by decide) wm_247 rfl hin rfl (by decide +kernel) rfl rfl (Nat.le_of_ble_eq_true rfl) rfl dX9_init_10 ?_
  refine yi_aload_n E dX9_init_13 0 rfl ?_
  refine yi_iconst (v := 4) E dX9_init_14 (by decide) ?_
  refine yi_newaI (N' := 4) E wm_698 (by decide) (by decide) (Nat.le_of_ble_eq_true rfl) ⟨Nat.le_of_ble_eq_true rfl, Nat.le_of_ble_eq_true rfl⟩ dX9_init_15 (fun q2 => ?_)
  refine yi_eq (ws' := [(h0, .inr (9, [.ref q1, .null, .null, .int 0, .int 0])), (q1, .inl (w.2.1 1, 160, .inl (fun _ => 0))), (q2, .inl (w.2.1 1, 4, .inl (fun _ => 0)))]) rfl ?_
  refine yi_putF (q := 0) (ci := 9) (k := 1) (N := 5) (C := RX9) (T := TX9) (v := .ref q2) (ty := (.array .int)) (ws' := [(h0, .inr (9, [.ref q1, .ref q2, .null, .int 0, .int 0])), (q1, .inl (w.2.1 1, 160, .inl (fun _ => 0))), (q2, .inl (w.2.1 1, 4, .inl (fun _ => 0)))]) E rfl rfl wu_X9 tyX9 tyX9_ok nmX9 (by decide) wm_248 rfl hin rfl (by decide +kernel) rfl rfl (Nat.le_of_ble_eq_true rfl) rfl dX9_init_17 ?_
  refine yi_aload_n E dX9_init_20 0 rfl ?_
  refine yi_aload_n E dX9_init_21 1 rfl ?_
  refine yi_putF (q := 0) (ci := 9) (k := 2) (N := 5) (C := RX9) (T := TX9) (v := .ref h1) (ty := (.array .int)) (ws' := [(h0, .inr (9, [.ref q1, .ref q2, .ref h1, .int 0, .int 0])), (q1, .inl (w.2.1 1, 160, .inl (fun _ => 0))), (q2, .inl (w.2.1 1, 4, .inl (fun _ => 0)))]) E rfl rfl wu_X9 tyX9 tyX9_ok nmX9 (by decide) wm_252 rfl hin rfl (by decide +kernel) rfl rfl (Nat.le_of_ble_eq_true rfl) rfl dX9_init_22 ?_
  exact yi_vret E dX9_init_25 (fun k => ([q1, q2] : List Nat).getD k 0) trivial rfl
theorem dX1_init_0 : decode cX1_init 0 = .ok (.aload_n 0, 1) := by decide +kernel
theorem dX1_init_1 : decode cX1_init 1 = .ok (.invokespecial 3, 3) := by decide +kernel
theorem dX1_init_4 : decode cX1_init 4 = .ok (.aload_n 0, 1) := by decide +kernel
theorem dX1_init_5 : decode cX1_init 5 = .ok (.aload_n 1, 1) := by decide +kernel
theorem dX1_init_6 : decode cX1_init 6 = .ok (.putfield 9, 3) := by decide +kernel
theorem dX1_init_9 : decode cX1_init 9 = .ok (.return_, 1) := by decide +kernel
set_option maxRecDepth 100000 in
set_option maxHeartbeats 4000000 in
theorem kIX1_1 (l : Launch) (w : wT) (h0 h1 : Nat) : yMetI (S := Nat → Nat) l w yX1_init cX1_init 2 1 0 0 [.ref h0, .ref h1] [(h0, .inr (1, [.null, .null, .null, .int 0, .int 0, .int 0, .int 0, .int 0]))] (fun u => [(h0, .inr (1, [.ref h1, .null, .null, .int 0, .int 0, .int 0, .int 0, .int 0]))]) (fun _ => True) := by
  refine yi_start (lv0 := [(0, .ref h0), (1, .ref h1)]) (by decide +kernel) (own := RX1) rfl (Nat.le_of_ble_eq_true rfl) rfl (fun p e s m below meth c A hin E => ?_)
  refine yi_aload_n E dX1_init_0 0 rfl ?_
  refine yi_objInit E wm_703 wm_689 wm_690 (by decide) (Nat.le_of_ble_eq_true rfl) dX1_init_1 ?_
  refine yi_aload_n E dX1_init_4 0 rfl ?_
  refine yi_aload_n E dX1_init_5 1 rfl ?_
  refine yi_putF (q := 0) (ci := 1) (k := 0) (N := 8) (C := RX1) (T := TX1) (v := .ref h1) (ty := (.object "WhereTheSpoonWent$House")) (ws' := [(h0, .inr (1, [.ref h1, .null, .null, .int 0, .int 0, .int 0, .int 0, .int 0]))]) E rfl rfl wu_X1 tyX1 tyX1_ok nmX1 (by decide) wm_100 rfl hin rfl (by decide +kernel) rfl rfl (Nat.le_of_ble_eq_true rfl) rfl dX1_init_6 ?_
  exact yi_vret E dX1_init_9 (fun k => ([] : List Nat).getD k 0) trivial rfl
