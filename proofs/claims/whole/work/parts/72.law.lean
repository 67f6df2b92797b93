def LSteps (Inv : Hp → Hp → Prop) : Prop := (∀ σ τ, Inv σ τ → ∀ (a1 a2 a3 : Int32), VX11_house (fun v u => VX12_house (fun v' u' => v = v' ∧ Inv u u') τ a1 a2 a3) σ a1 a2 a3) ∧ (∀ σ τ, Inv σ τ → ∀ (a1 : Int32), VX11_set (fun v u => VX12_set (fun v' u' => v = v' ∧ Inv u u') τ a1) σ a1) ∧ (∀ σ τ, Inv σ τ → ∀ (a1 : Int32), VX11_count (fun v u => VX12_count (fun v' u' => v = v' ∧ Inv u u') τ a1) σ a1) ∧ (∀ σ τ, Inv σ τ → ∀ (a1 a2 a3 a4 a5 a6 : Int32), VX11_feed (fun v u => VX12_feed (fun v' u' => v = v' ∧ Inv u u') τ a1 a2 a3 a4 a5 a6) σ a1 a2 a3 a4 a5 a6) ∧ (∀ σ τ, Inv σ τ → ∀ (_ : Unit), VX11_text (fun v u => VX12_text (fun v' u' => v = v' ∧ Inv u u') τ ) σ ) ∧ (∀ σ τ, Inv σ τ → ∀ (a1 : Int32), VX11_force (fun v u => VX12_force (fun v' u' => v = v' ∧ Inv u u') τ a1) σ a1) ∧ (∀ σ τ, Inv σ τ → ∀ (a1 a2 a3 a4 : Int32), VX11_asks (fun v u => VX12_asks (fun v' u' => v = v' ∧ Inv u u') τ a1 a2 a3 a4) σ a1 a2 a3 a4) ∧ (∀ σ τ, Inv σ τ → ∀ (a1 a2 a3 : Int32), VX11_thing (fun v u => VX12_thing (fun v' u' => v = v' ∧ Inv u u') τ a1 a2 a3) σ a1 a2 a3) ∧ (∀ σ τ, Inv σ τ → ∀ (a1 a2 a3 : Int32), VX11_put (fun v u => VX12_put (fun v' u' => v = v' ∧ Inv u u') τ a1 a2 a3) σ a1 a2 a3) ∧ (∀ σ τ, Inv σ τ → ∀ (a1 a2 : Int32), VX11_told (fun v u => VX12_told (fun v' u' => v = v' ∧ Inv u u') τ a1 a2) σ a1 a2) ∧ (∀ σ τ, Inv σ τ → ∀ (a1 a2 a3 : Int32), VX11_at (fun v u => VX12_at (fun v' u' => v = v' ∧ Inv u u') τ a1 a2 a3) σ a1 a2 a3) ∧ (∀ σ τ, Inv σ τ → ∀ (a1 : Int32), VX11_run (fun v u => VX12_run (fun v' u' => v = v' ∧ Inv u u') τ a1) σ a1) ∧ (∀ σ τ, Inv σ τ → ∀ (a1 a2 : Int32), VX11_when (fun v u => VX12_when (fun v' u' => v = v' ∧ Inv u u') τ a1 a2) σ a1 a2) ∧ (∀ σ τ, Inv σ τ → ∀ (a1 a2 : Int32), VX11_meet (fun v u => VX12_meet (fun v' u' => v = v' ∧ Inv u u') τ a1 a2) σ a1 a2) ∧ (∀ σ τ, Inv σ τ → ∀ (a1 a2 : Int32), VX11_inside (fun v u => VX12_inside (fun v' u' => v = v' ∧ Inv u u') τ a1 a2) σ a1 a2) ∧ (∀ σ τ, Inv σ τ → ∀ (a1 a2 : Int32), VX11_hand (fun v u => VX12_hand (fun v' u' => v = v' ∧ Inv u u') τ a1 a2) σ a1 a2) ∧ (∀ σ τ, Inv σ τ → ∀ (a1 a2 : Int32), VX11_first (fun v u => VX12_first (fun v' u' => v = v' ∧ Inv u u') τ a1 a2) σ a1 a2) ∧ (∀ σ τ, Inv σ τ → ∀ (a1 a2 : Int32), VX11_wait (fun v u => VX12_wait (fun v' u' => v = v' ∧ Inv u u') τ a1 a2) σ a1 a2) ∧ (∀ σ τ, Inv σ τ → ∀ (a1 a2 a3 : Int32), VX11_toss (fun v u => VX12_toss (fun v' u' => v = v' ∧ Inv u u') τ a1 a2 a3) σ a1 a2 a3) ∧ (∀ σ τ, Inv σ τ → ∀ (_ : Unit), VX11_key (fun v u => VX12_key (fun v' u' => v = v' ∧ Inv u u') τ ) σ ) ∧ (∀ σ τ, Inv σ τ → ∀ (a1 a2 a3 : Int32), VX11_turn (fun v u => VX12_turn (fun v' u' => v = v' ∧ Inv u u') τ a1 a2 a3) σ a1 a2 a3) ∧ (∀ σ τ, Inv σ τ → ∀ (a1 a2 : Int32), VX11_net (fun v u => VX12_net (fun v' u' => v = v' ∧ Inv u u') τ a1 a2) σ a1 a2) ∧ (∀ σ τ, Inv σ τ → ∀ (a1 a2 : Int32), VX11_can (fun v u => VX12_can (fun v' u' => v = v' ∧ Inv u u') τ a1 a2) σ a1 a2) ∧ (∀ σ τ, Inv σ τ → ∀ (a1 a2 a3 : Int32), VX11_look (fun v u => VX12_look (fun v' u' => v = v' ∧ Inv u u') τ a1 a2 a3) σ a1 a2 a3) ∧ (∀ σ τ, Inv σ τ → ∀ (a1 a2 a3 : Int32), VX11_went (fun v u => VX12_went (fun v' u' => v = v' ∧ Inv u u') τ a1 a2 a3) σ a1 a2 a3) ∧ (∀ σ τ, Inv σ τ → ∀ (a1 a2 a3 : Int32), VX11_search (fun v u => VX12_search (fun v' u' => v = v' ∧ Inv u u') τ a1 a2 a3) σ a1 a2 a3) ∧ (∀ σ τ, Inv σ τ → ∀ (a1 a2 : Int32), VX11_judge (fun v u => VX12_judge (fun v' u' => v = v' ∧ Inv u u') τ a1 a2) σ a1 a2) ∧ (∀ σ τ, Inv σ τ → ∀ (a1 : Int32), VX11_times (fun v u => VX12_times (fun v' u' => v = v' ∧ Inv u u') τ a1) σ a1) ∧ (∀ σ τ, Inv σ τ → ∀ (a1 a2 : Int32), VX11_laws (fun v u => VX12_laws (fun v' u' => v = v' ∧ Inv u u') τ a1 a2) σ a1 a2) ∧ (∀ σ τ, Inv σ τ → ∀ (a1 a2 : Int32), VX11_film (fun v u => VX12_film (fun v' u' => v = v' ∧ Inv u u') τ a1 a2) σ a1 a2) ∧ (∀ σ τ, Inv σ τ → ∀ (a1 a2 a3 : Int32), VX11_drawn (fun v u => VX12_drawn (fun v' u' => v = v' ∧ Inv u u') τ a1 a2 a3) σ a1 a2 a3) ∧ (∀ σ τ, Inv σ τ → ∀ (a1 a2 a3 a4 : Int32), VX11_mean (fun v u => VX12_mean (fun v' u' => v = v' ∧ Inv u u') τ a1 a2 a3 a4) σ a1 a2 a3 a4) ∧ (∀ σ τ, Inv σ τ → ∀ (_ : Unit), VX11_image (fun v u => VX12_image (fun v' u' => v = v' ∧ Inv u u') τ ) σ ) ∧ (∀ σ τ, Inv σ τ → ∀ (_ : Unit), VX11_back (fun v u => VX12_back (fun v' u' => v = v' ∧ Inv u u') τ ) σ ) ∧ (∀ σ τ, Inv σ τ → ∀ (a1 a2 a3 : Int32), VX11_sheet (fun v u => VX12_sheet (fun v' u' => v = v' ∧ Inv u u') τ a1 a2 a3) σ a1 a2 a3) ∧ (∀ σ τ, Inv σ τ → ∀ (a1 a2 a3 : Int32), VX11_cell (fun v u => VX12_cell (fun v' u' => v = v' ∧ Inv u u') τ a1 a2 a3) σ a1 a2 a3) ∧ (∀ σ τ, Inv σ τ → ∀ (a1 a2 a3 a4 a5 : Int32), VX11_copy (fun v u => VX12_copy (fun v' u' => v = v' ∧ Inv u u') τ a1 a2 a3 a4 a5) σ a1 a2 a3 a4 a5) ∧ (∀ σ τ, Inv σ τ → ∀ (a1 a2 a3 a4 : Int32), VX11_thingsBy (fun v u => VX12_thingsBy (fun v' u' => v = v' ∧ Inv u u') τ a1 a2 a3 a4) σ a1 a2 a3 a4) ∧ (∀ σ τ, Inv σ τ → ∀ (a1 a2 : Int32), VX11_taken (fun v u => VX12_taken (fun v' u' => v = v' ∧ Inv u u') τ a1 a2) σ a1 a2)
theorem ls_0 {Inv : Hp → Hp → Prop} (h : LSteps Inv) : ∀ σ τ, Inv σ τ → ∀ (a1 a2 a3 : Int32), VX11_house (fun v u => VX12_house (fun v' u' => v = v' ∧ Inv u u') τ a1 a2 a3) σ a1 a2 a3 := h.1
theorem ls_1 {Inv : Hp → Hp → Prop} (h : LSteps Inv) : ∀ σ τ, Inv σ τ → ∀ (a1 : Int32), VX11_set (fun v u => VX12_set (fun v' u' => v = v' ∧ Inv u u') τ a1) σ a1 := h.2.1
theorem ls_2 {Inv : Hp → Hp → Prop} (h : LSteps Inv) : ∀ σ τ, Inv σ τ → ∀ (a1 : Int32), VX11_count (fun v u => VX12_count (fun v' u' => v = v' ∧ Inv u u') τ a1) σ a1 := h.2.2.1
theorem ls_3 {Inv : Hp → Hp → Prop} (h : LSteps Inv) : ∀ σ τ, Inv σ τ → ∀ (a1 a2 a3 a4 a5 a6 : Int32), VX11_feed (fun v u => VX12_feed (fun v' u' => v = v' ∧ Inv u u') τ a1 a2 a3 a4 a5 a6) σ a1 a2 a3 a4 a5 a6 := h.2.2.2.1
theorem ls_4 {Inv : Hp → Hp → Prop} (h : LSteps Inv) : ∀ σ τ, Inv σ τ → ∀ (_ : Unit), VX11_text (fun v u => VX12_text (fun v' u' => v = v' ∧ Inv u u') τ ) σ  := h.2.2.2.2.1
theorem ls_5 {Inv : Hp → Hp → Prop} (h : LSteps Inv) : ∀ σ τ, Inv σ τ → ∀ (a1 : Int32), VX11_force (fun v u => VX12_force (fun v' u' => v = v' ∧ Inv u u') τ a1) σ a1 := h.2.2.2.2.2.1
theorem ls_6 {Inv : Hp → Hp → Prop} (h : LSteps Inv) : ∀ σ τ, Inv σ τ → ∀ (a1 a2 a3 a4 : Int32), VX11_asks (fun v u => VX12_asks (fun v' u' => v = v' ∧ Inv u u') τ a1 a2 a3 a4) σ a1 a2 a3 a4 := h.2.2.2.2.2.2.1
theorem ls_7 {Inv : Hp → Hp → Prop} (h : LSteps Inv) : ∀ σ τ, Inv σ τ → ∀ (a1 a2 a3 : Int32), VX11_thing (fun v u => VX12_thing (fun v' u' => v = v' ∧ Inv u u') τ a1 a2 a3) σ a1 a2 a3 := h.2.2.2.2.2.2.2.1
theorem ls_8 {Inv : Hp → Hp → Prop} (h : LSteps Inv) : ∀ σ τ, Inv σ τ → ∀ (a1 a2 a3 : Int32), VX11_put (fun v u => VX12_put (fun v' u' => v = v' ∧ Inv u u') τ a1 a2 a3) σ a1 a2 a3 := h.2.2.2.2.2.2.2.2.1
theorem ls_9 {Inv : Hp → Hp → Prop} (h : LSteps Inv) : ∀ σ τ, Inv σ τ → ∀ (a1 a2 : Int32), VX11_told (fun v u => VX12_told (fun v' u' => v = v' ∧ Inv u u') τ a1 a2) σ a1 a2 := h.2.2.2.2.2.2.2.2.2.1
theorem ls_10 {Inv : Hp → Hp → Prop} (h : LSteps Inv) : ∀ σ τ, Inv σ τ → ∀ (a1 a2 a3 : Int32), VX11_at (fun v u => VX12_at (fun v' u' => v = v' ∧ Inv u u') τ a1 a2 a3) σ a1 a2 a3 := h.2.2.2.2.2.2.2.2.2.2.1
theorem ls_11 {Inv : Hp → Hp → Prop} (h : LSteps Inv) : ∀ σ τ, Inv σ τ → ∀ (a1 : Int32), VX11_run (fun v u => VX12_run (fun v' u' => v = v' ∧ Inv u u') τ a1) σ a1 := h.2.2.2.2.2.2.2.2.2.2.2.1
theorem ls_12 {Inv : Hp → Hp → Prop} (h : LSteps Inv) : ∀ σ τ, Inv σ τ → ∀ (a1 a2 : Int32), VX11_when (fun v u => VX12_when (fun v' u' => v = v' ∧ Inv u u') τ a1 a2) σ a1 a2 := h.2.2.2.2.2.2.2.2.2.2.2.2.1
theorem ls_13 {Inv : Hp → Hp → Prop} (h : LSteps Inv) : ∀ σ τ, Inv σ τ → ∀ (a1 a2 : Int32), VX11_meet (fun v u => VX12_meet (fun v' u' => v = v' ∧ Inv u u') τ a1 a2) σ a1 a2 := h.2.2.2.2.2.2.2.2.2.2.2.2.2.1
theorem ls_14 {Inv : Hp → Hp → Prop} (h : LSteps Inv) : ∀ σ τ, Inv σ τ → ∀ (a1 a2 : Int32), VX11_inside (fun v u => VX12_inside (fun v' u' => v = v' ∧ Inv u u') τ a1 a2) σ a1 a2 := h.2.2.2.2.2.2.2.2.2.2.2.2.2.2.1
theorem ls_15 {Inv : Hp → Hp → Prop} (h : LSteps Inv) : ∀ σ τ, Inv σ τ → ∀ (a1 a2 : Int32), VX11_hand (fun v u => VX12_hand (fun v' u' => v = v' ∧ Inv u u') τ a1 a2) σ a1 a2 := h.2.2.2.2.2.2.2.2.2.2.2.2.2.2.2.1
theorem ls_16 {Inv : Hp → Hp → Prop} (h : LSteps Inv) : ∀ σ τ, Inv σ τ → ∀ (a1 a2 : Int32), VX11_first (fun v u => VX12_first (fun v' u' => v = v' ∧ Inv u u') τ a1 a2) σ a1 a2 := h.2.2.2.2.2.2.2.2.2.2.2.2.2.2.2.2.1
theorem ls_17 {Inv : Hp → Hp → Prop} (h : LSteps Inv) : ∀ σ τ, Inv σ τ → ∀ (a1 a2 : Int32), VX11_wait (fun v u => VX12_wait (fun v' u' => v = v' ∧ Inv u u') τ a1 a2) σ a1 a2 := h.2.2.2.2.2.2.2.2.2.2.2.2.2.2.2.2.2.1
theorem ls_18 {Inv : Hp → Hp → Prop} (h : LSteps Inv) : ∀ σ τ, Inv σ τ → ∀ (a1 a2 a3 : Int32), VX11_toss (fun v u => VX12_toss (fun v' u' => v = v' ∧ Inv u u') τ a1 a2 a3) σ a1 a2 a3 := h.2.2.2.2.2.2.2.2.2.2.2.2.2.2.2.2.2.2.1
theorem ls_19 {Inv : Hp → Hp → Prop} (h : LSteps Inv) : ∀ σ τ, Inv σ τ → ∀ (_ : Unit), VX11_key (fun v u => VX12_key (fun v' u' => v = v' ∧ Inv u u') τ ) σ  := h.2.2.2.2.2.2.2.2.2.2.2.2.2.2.2.2.2.2.2.1
theorem ls_20 {Inv : Hp → Hp → Prop} (h : LSteps Inv) : ∀ σ τ, Inv σ τ → ∀ (a1 a2 a3 : Int32), VX11_turn (fun v u => VX12_turn (fun v' u' => v = v' ∧ Inv u u') τ a1 a2 a3) σ a1 a2 a3 := h.2.2.2.2.2.2.2.2.2.2.2.2.2.2.2.2.2.2.2.2.1
theorem ls_21 {Inv : Hp → Hp → Prop} (h : LSteps Inv) : ∀ σ τ, Inv σ τ → ∀ (a1 a2 : Int32), VX11_net (fun v u => VX12_net (fun v' u' => v = v' ∧ Inv u u') τ a1 a2) σ a1 a2 := h.2.2.2.2.2.2.2.2.2.2.2.2.2.2.2.2.2.2.2.2.2.1
theorem ls_22 {Inv : Hp → Hp → Prop} (h : LSteps Inv) : ∀ σ τ, Inv σ τ → ∀ (a1 a2 : Int32), VX11_can (fun v u => VX12_can (fun v' u' => v = v' ∧ Inv u u') τ a1 a2) σ a1 a2 := h.2.2.2.2.2.2.2.2.2.2.2.2.2.2.2.2.2.2.2.2.2.2.1
theorem ls_23 {Inv : Hp → Hp → Prop} (h : LSteps Inv) : ∀ σ τ, Inv σ τ → ∀ (a1 a2 a3 : Int32), VX11_look (fun v u => VX12_look (fun v' u' => v = v' ∧ Inv u u') τ a1 a2 a3) σ a1 a2 a3 := h.2.2.2.2.2.2.2.2.2.2.2.2.2.2.2.2.2.2.2.2.2.2.2.1
theorem ls_24 {Inv : Hp → Hp → Prop} (h : LSteps Inv) : ∀ σ τ, Inv σ τ → ∀ (a1 a2 a3 : Int32), VX11_went (fun v u => VX12_went (fun v' u' => v = v' ∧ Inv u u') τ a1 a2 a3) σ a1 a2 a3 := h.2.2.2.2.2.2.2.2.2.2.2.2.2.2.2.2.2.2.2.2.2.2.2.2.1
theorem ls_25 {Inv : Hp → Hp → Prop} (h : LSteps Inv) : ∀ σ τ, Inv σ τ → ∀ (a1 a2 a3 : Int32), VX11_search (fun v u => VX12_search (fun v' u' => v = v' ∧ Inv u u') τ a1 a2 a3) σ a1 a2 a3 := h.2.2.2.2.2.2.2.2.2.2.2.2.2.2.2.2.2.2.2.2.2.2.2.2.2.1
theorem ls_26 {Inv : Hp → Hp → Prop} (h : LSteps Inv) : ∀ σ τ, Inv σ τ → ∀ (a1 a2 : Int32), VX11_judge (fun v u => VX12_judge (fun v' u' => v = v' ∧ Inv u u') τ a1 a2) σ a1 a2 := h.2.2.2.2.2.2.2.2.2.2.2.2.2.2.2.2.2.2.2.2.2.2.2.2.2.2.1
theorem ls_27 {Inv : Hp → Hp → Prop} (h : LSteps Inv) : ∀ σ τ, Inv σ τ → ∀ (a1 : Int32), VX11_times (fun v u => VX12_times (fun v' u' => v = v' ∧ Inv u u') τ a1) σ a1 := h.2.2.2.2.2.2.2.2.2.2.2.2.2.2.2.2.2.2.2.2.2.2.2.2.2.2.2.1
theorem ls_28 {Inv : Hp → Hp → Prop} (h : LSteps Inv) : ∀ σ τ, Inv σ τ → ∀ (a1 a2 : Int32), VX11_laws (fun v u => VX12_laws (fun v' u' => v = v' ∧ Inv u u') τ a1 a2) σ a1 a2 := h.2.2.2.2.2.2.2.2.2.2.2.2.2.2.2.2.2.2.2.2.2.2.2.2.2.2.2.2.1
theorem ls_29 {Inv : Hp → Hp → Prop} (h : LSteps Inv) : ∀ σ τ, Inv σ τ → ∀ (a1 a2 : Int32), VX11_film (fun v u => VX12_film (fun v' u' => v = v' ∧ Inv u u') τ a1 a2) σ a1 a2 := h.2.2.2.2.2.2.2.2.2.2.2.2.2.2.2.2.2.2.2.2.2.2.2.2.2.2.2.2.2.1
theorem ls_30 {Inv : Hp → Hp → Prop} (h : LSteps Inv) : ∀ σ τ, Inv σ τ → ∀ (a1 a2 a3 : Int32), VX11_drawn (fun v u => VX12_drawn (fun v' u' => v = v' ∧ Inv u u') τ a1 a2 a3) σ a1 a2 a3 := h.2.2.2.2.2.2.2.2.2.2.2.2.2.2.2.2.2.2.2.2.2.2.2.2.2.2.2.2.2.2.1
theorem ls_31 {Inv : Hp → Hp → Prop} (h : LSteps Inv) : ∀ σ τ, Inv σ τ → ∀ (a1 a2 a3 a4 : Int32), VX11_mean (fun v u => VX12_mean (fun v' u' => v = v' ∧ Inv u u') τ a1 a2 a3 a4) σ a1 a2 a3 a4 := h.2.2.2.2.2.2.2.2.2.2.2.2.2.2.2.2.2.2.2.2.2.2.2.2.2.2.2.2.2.2.2.1
theorem ls_32 {Inv : Hp → Hp → Prop} (h : LSteps Inv) : ∀ σ τ, Inv σ τ → ∀ (_ : Unit), VX11_image (fun v u => VX12_image (fun v' u' => v = v' ∧ Inv u u') τ ) σ  := h.2.2.2.2.2.2.2.2.2.2.2.2.2.2.2.2.2.2.2.2.2.2.2.2.2.2.2.2.2.2.2.2.1
theorem ls_33 {Inv : Hp → Hp → Prop} (h : LSteps Inv) : ∀ σ τ, Inv σ τ → ∀ (_ : Unit), VX11_back (fun v u => VX12_back (fun v' u' => v = v' ∧ Inv u u') τ ) σ  := h.2.2.2.2.2.2.2.2.2.2.2.2.2.2.2.2.2.2.2.2.2.2.2.2.2.2.2.2.2.2.2.2.2.1
theorem ls_34 {Inv : Hp → Hp → Prop} (h : LSteps Inv) : ∀ σ τ, Inv σ τ → ∀ (a1 a2 a3 : Int32), VX11_sheet (fun v u => VX12_sheet (fun v' u' => v = v' ∧ Inv u u') τ a1 a2 a3) σ a1 a2 a3 := h.2.2.2.2.2.2.2.2.2.2.2.2.2.2.2.2.2.2.2.2.2.2.2.2.2.2.2.2.2.2.2.2.2.2.1
theorem ls_35 {Inv : Hp → Hp → Prop} (h : LSteps Inv) : ∀ σ τ, Inv σ τ → ∀ (a1 a2 a3 : Int32), VX11_cell (fun v u => VX12_cell (fun v' u' => v = v' ∧ Inv u u') τ a1 a2 a3) σ a1 a2 a3 := h.2.2.2.2.2.2.2.2.2.2.2.2.2.2.2.2.2.2.2.2.2.2.2.2.2.2.2.2.2.2.2.2.2.2.2.1
theorem ls_36 {Inv : Hp → Hp → Prop} (h : LSteps Inv) : ∀ σ τ, Inv σ τ → ∀ (a1 a2 a3 a4 a5 : Int32), VX11_copy (fun v u => VX12_copy (fun v' u' => v = v' ∧ Inv u u') τ a1 a2 a3 a4 a5) σ a1 a2 a3 a4 a5 := h.2.2.2.2.2.2.2.2.2.2.2.2.2.2.2.2.2.2.2.2.2.2.2.2.2.2.2.2.2.2.2.2.2.2.2.2.1
theorem ls_37 {Inv : Hp → Hp → Prop} (h : LSteps Inv) : ∀ σ τ, Inv σ τ → ∀ (a1 a2 a3 a4 : Int32), VX11_thingsBy (fun v u => VX12_thingsBy (fun v' u' => v = v' ∧ Inv u u') τ a1 a2 a3 a4) σ a1 a2 a3 a4 := h.2.2.2.2.2.2.2.2.2.2.2.2.2.2.2.2.2.2.2.2.2.2.2.2.2.2.2.2.2.2.2.2.2.2.2.2.2.1
theorem ls_38 {Inv : Hp → Hp → Prop} (h : LSteps Inv) : ∀ σ τ, Inv σ τ → ∀ (a1 a2 : Int32), VX11_taken (fun v u => VX12_taken (fun v' u' => v = v' ∧ Inv u u') τ a1 a2) σ a1 a2 := h.2.2.2.2.2.2.2.2.2.2.2.2.2.2.2.2.2.2.2.2.2.2.2.2.2.2.2.2.2.2.2.2.2.2.2.2.2.2
set_option maxRecDepth 100000 in
set_option maxHeartbeats 4000000 in
theorem law_0 {p : Program} {l : Launch} {e : Env} {s : State} {m : MethodId} {args : Array Value} {below : List Frame} {meth : Method} {c : Code} {w w2 : wT} {A : Nat → Prop} {Q : State → Prop} {σ τ : Hp} {b L : Nat} {xs : Nat → Int32} {Inv : Hp → Hp → Prop} {x3 : Int32} (E : LE p m meth c s args w w2 A b L xs) (hs : LSteps Inv) (hI : Inv σ τ) (hin : ∀ k : Int32, 1 ≤ k → k ≤ 6 → vp_in (x3 + k) L) (kk : ∀ u u', Inv u u' → YL p l e s m args below meth c w w2 A Q u u' 1616 [(3, .int x3), (2, .ref (w2.1 0)), (1, .ref (w.1 0)), (0, .ref b)] []) : YL p l e s m args below meth c w w2 A Q σ τ 204 [(3, .int x3), (2, .ref (w2.1 0)), (1, .ref (w.1 0)), (0, .ref b)] [] := by
  have hv := ls_0 hs σ τ hI (xs (x3 + 1).toNatClampNeg) (xs (x3 + 2).toNatClampNeg) (xs (x3 + 3).toNatClampNeg)
  refine yl_aload_n E dL_law_204 2 rfl ?_
  refine yl_aload_n E dL_law_205 3 rfl ?_
  refine yl_iload_n E dL_law_206 0 rfl ?_
  refine yl_iconst (v := 1) E dL_law_207 (by decide) ?_
  refine yl_iadd E dL_law_208 ?_
  refine yl_sld E (hin 1 (by decide) (by decide)) dL_law_209 ?_
  refine yl_aload_n E dL_law_210 3 rfl ?_
  refine yl_iload_n E dL_law_211 0 rfl ?_
  refine yl_iconst (v := 2) E dL_law_212 (by decide) ?_
  refine yl_iadd E dL_law_213 ?_
  refine yl_sld E (hin 2 (by decide) (by decide)) dL_law_214 ?_
  refine yl_aload_n E dL_law_215 3 rfl ?_
  refine yl_iload_n E dL_law_216 0 rfl ?_
  refine yl_iconst (v := 3) E dL_law_217 (by decide) ?_
  refine yl_iadd E dL_law_218 ?_
  refine yl_sld E (hin 3 (by decide) (by decide)) dL_law_219 ?_
  refine yl_callXi E (yl_runX (rest := []) E (kX11_house l w E.2.2.2.1.1 σ (xs (x3 + 1).toNatClampNeg) (xs (x3 + 2).toNatClampNeg) (xs (x3 + 3).toNatClampNeg) _ hv) (y_cwV 3 E.1.2.2.2.2 wm_758 wm_759 wm_760 wm_116 wm_761 (by decide +kernel) ⟨Nat.le_of_ble_eq_true rfl, Nat.le_of_ble_eq_true rfl⟩) rfl rfl (Nat.le_of_ble_eq_true rfl) dL_law_220) (fun v0 u0 hk => ?_)
  clear hv; have hv := hk; clear hk
  refine yl_aload_n E dL_law_223 1 rfl ?_
  refine yl_aload_n E dL_law_224 3 rfl ?_
  refine yl_iload_n E dL_law_225 0 rfl ?_
  refine yl_iconst (v := 1) E dL_law_226 (by decide) ?_
  refine yl_iadd E dL_law_227 ?_
  refine yl_sld E (hin 1 (by decide) (by decide)) dL_law_228 ?_
  refine yl_aload_n E dL_law_229 3 rfl ?_
  refine yl_iload_n E dL_law_230 0 rfl ?_
  refine yl_iconst (v := 2) E dL_law_231 (by decide) ?_
  refine yl_iadd E dL_law_232 ?_
  refine yl_sld E (hin 2 (by decide) (by decide)) dL_law_233 ?_
  refine yl_aload_n E dL_law_234 3 rfl ?_
  refine yl_iload_n E dL_law_235 0 rfl ?_
  refine yl_iconst (v := 3) E dL_law_236 (by decide) ?_
  refine yl_iadd E dL_law_237 ?_
  refine yl_sld E (hin 3 (by decide) (by decide)) dL_law_238 ?_
  refine yl_callMi E (yl_runM (rest := [.int v0]) E (kX12_house l w2 E.2.2.2.1.2.1 τ (xs (x3 + 1).toNatClampNeg) (xs (x3 + 2).toNatClampNeg) (xs (x3 + 3).toNatClampNeg) _ hv) (y_cwV 3 E.1.2.2.2.2 wm_762 wm_763 wm_764 wm_479 wm_765 (by decide +kernel) ⟨Nat.le_of_ble_eq_true rfl, Nat.le_of_ble_eq_true rfl⟩) rfl rfl (Nat.le_of_ble_eq_true rfl) dL_law_239) (fun v1 u1 hk => ?_)
  clear hv; have hv := hk; clear hk
  obtain ⟨hve, hI2⟩ := hv
  exact yl_icmp_eq (tgt := 1616) E dL_law_242 (by decide) (fun _ => kk _ _ hI2) (fun h => absurd hve h)
set_option maxRecDepth 100000 in
set_option maxHeartbeats 4000000 in
theorem law_1 {p : Program} {l : Launch} {e : Env} {s : State} {m : MethodId} {args : Array Value} {below : List Frame} {meth : Method} {c : Code} {w w2 : wT} {A : Nat → Prop} {Q : State → Prop} {σ τ : Hp} {b L : Nat} {xs : Nat → Int32} {Inv : Hp → Hp → Prop} {x3 : Int32} (E : LE p m meth c s args w w2 A b L xs) (hs : LSteps Inv) (hI : Inv σ τ) (hin : ∀ k : Int32, 1 ≤ k → k ≤ 6 → vp_in (x3 + k) L) (kk : ∀ u u', Inv u u' → YL p l e s m args below meth c w w2 A Q u u' 1616 [(3, .int x3), (2, .ref (w2.1 0)), (1, .ref (w.1 0)), (0, .ref b)] []) : YL p l e s m args below meth c w w2 A Q σ τ 247 [(3, .int x3), (2, .ref (w2.1 0)), (1, .ref (w.1 0)), (0, .ref b)] [] := by
  have hv := ls_1 hs σ τ hI (xs (x3 + 1).toNatClampNeg)
  refine yl_aload_n E dL_law_247 2 rfl ?_
  refine yl_aload_n E dL_law_248 3 rfl ?_
  refine yl_iload_n E dL_law_249 0 rfl ?_
  refine yl_iconst (v := 1) E dL_law_250 (by decide) ?_
  refine yl_iadd E dL_law_251 ?_
  refine yl_sld E (hin 1 (by decide) (by decide)) dL_law_252 ?_
  refine yl_callXi E (yl_runX (rest := []) E (kX11_set l w E.2.2.2.1.1 σ (xs (x3 + 1).toNatClampNeg) _ hv) (y_cwV 1 E.1.2.2.2.2 wm_766 wm_767 wm_768 wm_116 wm_769 (by decide +kernel) ⟨Nat.le_of_ble_eq_true rfl, Nat.le_of_ble_eq_true rfl⟩) rfl rfl (Nat.le_of_ble_eq_true rfl) dL_law_253) (fun v0 u0 hk => ?_)
  clear hv; have hv := hk; clear hk
  refine yl_aload_n E dL_law_256 1 rfl ?_
  refine yl_aload_n E dL_law_257 3 rfl ?_
  refine yl_iload_n E dL_law_258 0 rfl ?_
  refine yl_iconst (v := 1) E dL_law_259 (by decide) ?_
  refine yl_iadd E dL_law_260 ?_
  refine yl_sld E (hin 1 (by decide) (by decide)) dL_law_261 ?_
  refine yl_callMi E (yl_runM (rest := [.int v0]) E (kX12_set l w2 E.2.2.2.1.2.1 τ (xs (x3 + 1).toNatClampNeg) _ hv) (y_cwV 1 E.1.2.2.2.2 wm_770 wm_771 wm_772 wm_479 wm_773 (by decide +kernel) ⟨Nat.le_of_ble_eq_true rfl, Nat.le_of_ble_eq_true rfl⟩) rfl rfl (Nat.le_of_ble_eq_true rfl) dL_law_262) (fun v1 u1 hk => ?_)
  clear hv; have hv := hk; clear hk
  obtain ⟨hve, hI2⟩ := hv
  exact yl_icmp_eq (tgt := 1616) E dL_law_265 (by decide) (fun _ => kk _ _ hI2) (fun h => absurd hve h)
set_option maxRecDepth 100000 in
set_option maxHeartbeats 4000000 in
theorem law_2 {p : Program} {l : Launch} {e : Env} {s : State} {m : MethodId} {args : Array Value} {below : List Frame} {meth : Method} {c : Code} {w w2 : wT} {A : Nat → Prop} {Q : State → Prop} {σ τ : Hp} {b L : Nat} {xs : Nat → Int32} {Inv : Hp → Hp → Prop} {x3 : Int32} (E : LE p m meth c s args w w2 A b L xs) (hs : LSteps Inv) (hI : Inv σ τ) (hin : ∀ k : Int32, 1 ≤ k → k ≤ 6 → vp_in (x3 + k) L) (kk : ∀ u u', Inv u u' → YL p l e s m args below meth c w w2 A Q u u' 1616 [(3, .int x3), (2, .ref (w2.1 0)), (1, .ref (w.1 0)), (0, .ref b)] []) : YL p l e s m args below meth c w w2 A Q σ τ 270 [(3, .int x3), (2, .ref (w2.1 0)), (1, .ref (w.1 0)), (0, .ref b)] [] := by
  have hv := ls_2 hs σ τ hI (xs (x3 + 1).toNatClampNeg)
  refine yl_aload_n E dL_law_270 2 rfl ?_
  refine yl_aload_n E dL_law_271 3 rfl ?_
  refine yl_iload_n E dL_law_272 0 rfl ?_
  refine yl_iconst (v := 1) E dL_law_273 (by decide) ?_
  refine yl_iadd E dL_law_274 ?_
  refine yl_sld E (hin 1 (by decide) (by decide)) dL_law_275 ?_
  refine yl_callXi E (yl_runX (rest := []) E (kX11_count l w E.2.2.2.1.1 σ (xs (x3 + 1).toNatClampNeg) _ hv) (y_cwV 1 E.1.2.2.2.2 wm_774 wm_775 wm_776 wm_116 wm_777 (by decide +kernel) ⟨Nat.le_of_ble_eq_true rfl, Nat.le_of_ble_eq_true rfl⟩) rfl rfl (Nat.le_of_ble_eq_true rfl) dL_law_276) (fun v0 u0 hk => ?_)
  clear hv; have hv := hk; clear hk
  refine yl_aload_n E dL_law_279 1 rfl ?_
  refine yl_aload_n E dL_law_280 3 rfl ?_
  refine yl_iload_n E dL_law_281 0 rfl ?_
  refine yl_iconst (v := 1) E dL_law_282 (by decide) ?_
  refine yl_iadd E dL_law_283 ?_
  refine yl_sld E (hin 1 (by decide) (by decide)) dL_law_284 ?_
  refine yl_callMi E (yl_runM (rest := [.int v0]) E (kX12_count l w2 E.2.2.2.1.2.1 τ (xs (x3 + 1).toNatClampNeg) _ hv) (y_cwV 1 E.1.2.2.2.2 wm_778 wm_779 wm_780 wm_479 wm_781 (by decide +kernel) ⟨Nat.le_of_ble_eq_true rfl, Nat.le_of_ble_eq_true rfl⟩) rfl rfl (Nat.le_of_ble_eq_true rfl) dL_law_285) (fun v1 u1 hk => ?_)
  clear hv; have hv := hk; clear hk
  obtain ⟨hve, hI2⟩ := hv
  exact yl_icmp_eq (tgt := 1616) E dL_law_288 (by decide) (fun _ => kk _ _ hI2) (fun h => absurd hve h)
set_option maxRecDepth 100000 in
set_option maxHeartbeats 4000000 in
theorem law_3 {p : Program} {l : Launch} {e : Env} {s : State} {m : MethodId} {args : Array Value} {below : List Frame} {meth : Method} {c : Code} {w w2 : wT} {A : Nat → Prop} {Q : State → Prop} {σ τ : Hp} {b L : Nat} {xs : Nat → Int32} {Inv : Hp → Hp → Prop} {x3 : Int32} (E : LE p m meth c s args w w2 A b L xs) (hs : LSteps Inv) (hI : Inv σ τ) (hin : ∀ k : Int32, 1 ≤ k → k ≤ 6 → vp_in (x3 + k) L) (kk : ∀ u u', Inv u u' → YL p l e s m args below meth c w w2 A Q u u' 1616 [(3, .int x3), (2, .ref (w2.1 0)), (1, .ref (w.1 0)), (0, .ref b)] []) : YL p l e s m args below meth c w w2 A Q σ τ 293 [(3, .int x3), (2, .ref (w2.1 0)), (1, .ref (w.1 0)), (0, .ref b)] [] := by
  have hv := ls_3 hs σ τ hI (xs (x3 + 1).toNatClampNeg) (xs (x3 + 2).toNatClampNeg) (xs (x3 + 3).toNatClampNeg) (xs (x3 + 4).toNatClampNeg) (xs (x3 + 5).toNatClampNeg) (xs (x3 + 6).toNatClampNeg)
  refine yl_aload_n E dL_law_293 2 rfl ?_
  refine yl_aload_n E dL_law_294 3 rfl ?_
  refine yl_iload_n E dL_law_295 0 rfl ?_
  refine yl_iconst (v := 1) E dL_law_296 (by decide) ?_
  refine yl_iadd E dL_law_297 ?_
  refine yl_sld E (hin 1 (by decide) (by decide)) dL_law_298 ?_
  refine yl_aload_n E dL_law_299 3 rfl ?_
  refine yl_iload_n E dL_law_300 0 rfl ?_
  refine yl_iconst (v := 2) E dL_law_301 (by decide) ?_
  refine yl_iadd E dL_law_302 ?_
  refine yl_sld E (hin 2 (by decide) (by decide)) dL_law_303 ?_
  refine yl_aload_n E dL_law_304 3 rfl ?_
  refine yl_iload_n E dL_law_305 0 rfl ?_
  refine yl_iconst (v := 3) E dL_law_306 (by decide) ?_
  refine yl_iadd E dL_law_307 ?_
  refine yl_sld E (hin 3 (by decide) (by decide)) dL_law_308 ?_
  refine yl_aload_n E dL_law_309 3 rfl ?_
  refine yl_iload_n E dL_law_310 0 rfl ?_
  refine yl_iconst (v := 4) E dL_law_311 (by decide) ?_
  refine yl_iadd E dL_law_312 ?_
  refine yl_sld E (hin 4 (by decide) (by decide)) dL_law_313 ?_
  refine yl_aload_n E dL_law_314 3 rfl ?_
  refine yl_iload_n E dL_law_315 0 rfl ?_
  refine yl_iconst (v := 5) E dL_law_316 (by decide) ?_
  refine yl_iadd E dL_law_317 ?_
  refine yl_sld E (hin 5 (by decide) (by decide)) dL_law_318 ?_
  refine yl_aload_n E dL_law_319 3 rfl ?_
  refine yl_iload_n E dL_law_320 0 rfl ?_
  refine yl_bipush (v := 6) E dL_law_321 (by decide) ?_
  refine yl_iadd E dL_law_323 ?_
  refine yl_sld E (hin 6 (by decide) (by decide)) dL_law_324 ?_
  refine yl_callXi E (yl_runX (rest := []) E (kX11_feed l w E.2.2.2.1.1 σ (xs (x3 + 1).toNatClampNeg) (xs (x3 + 2).toNatClampNeg) (xs (x3 + 3).toNatClampNeg) (xs (x3 + 4).toNatClampNeg) (xs (x3 + 5).toNatClampNeg) (xs (x3 + 6).toNatClampNeg) _ hv) (y_cwV 6 E.1.2.2.2.2 wm_782 wm_783 wm_784 wm_116 wm_785 (by decide +kernel) ⟨Nat.le_of_ble_eq_true rfl, Nat.le_of_ble_eq_true rfl⟩) rfl rfl (Nat.le_of_ble_eq_true rfl) dL_law_325) (fun v0 u0 hk => ?_)
  clear hv; have hv := hk; clear hk
  refine yl_aload_n E dL_law_328 1 rfl ?_
  refine yl_aload_n E dL_law_329 3 rfl ?_
  refine yl_iload_n E dL_law_330 0 rfl ?_
  refine yl_iconst (v := 1) E dL_law_331 (by decide) ?_
  refine yl_iadd E dL_law_332 ?_
  refine yl_sld E (hin 1 (by decide) (by decide)) dL_law_333 ?_
  refine yl_aload_n E dL_law_334 3 rfl ?_
  refine yl_iload_n E dL_law_335 0 rfl ?_
  refine yl_iconst (v := 2) E dL_law_336 (by decide) ?_
  refine yl_iadd E dL_law_337 ?_
  refine yl_sld E (hin 2 (by decide) (by decide)) dL_law_338 ?_
  refine yl_aload_n E dL_law_339 3 rfl ?_
  refine yl_iload_n E dL_law_340 0 rfl ?_
  refine yl_iconst (v := 3) E dL_law_341 (by decide) ?_
  refine yl_iadd E dL_law_342 ?_
  refine yl_sld E (hin 3 (by decide) (by decide)) dL_law_343 ?_
  refine yl_aload_n E dL_law_344 3 rfl ?_
  refine yl_iload_n E dL_law_345 0 rfl ?_
  refine yl_iconst (v := 4) E dL_law_346 (by decide) ?_
  refine yl_iadd E dL_law_347 ?_
  refine yl_sld E (hin 4 (by decide) (by decide)) dL_law_348 ?_
  refine yl_aload_n E dL_law_349 3 rfl ?_
  refine yl_iload_n E dL_law_350 0 rfl ?_
  refine yl_iconst (v := 5) E dL_law_351 (by decide) ?_
  refine yl_iadd E dL_law_352 ?_
  refine yl_sld E (hin 5 (by decide) (by decide)) dL_law_353 ?_
  refine yl_aload_n E dL_law_354 3 rfl ?_
  refine yl_iload_n E dL_law_355 0 rfl ?_
  refine yl_bipush (v := 6) E dL_law_356 (by decide) ?_
  refine yl_iadd E dL_law_358 ?_
  refine yl_sld E (hin 6 (by decide) (by decide)) dL_law_359 ?_
  refine yl_callMi E (yl_runM (rest := [.int v0]) E (kX12_feed l w2 E.2.2.2.1.2.1 τ (xs (x3 + 1).toNatClampNeg) (xs (x3 + 2).toNatClampNeg) (xs (x3 + 3).toNatClampNeg) (xs (x3 + 4).toNatClampNeg) (xs (x3 + 5).toNatClampNeg) (xs (x3 + 6).toNatClampNeg) _ hv) (y_cwV 6 E.1.2.2.2.2 wm_786 wm_787 wm_788 wm_479 wm_789 (by decide +kernel) ⟨Nat.le_of_ble_eq_true rfl, Nat.le_of_ble_eq_true rfl⟩) rfl rfl (Nat.le_of_ble_eq_true rfl) dL_law_360) (fun v1 u1 hk => ?_)
  clear hv; have hv := hk; clear hk
  obtain ⟨hve, hI2⟩ := hv
  exact yl_icmp_eq (tgt := 1616) E dL_law_363 (by decide) (fun _ => kk _ _ hI2) (fun h => absurd hve h)
set_option maxRecDepth 100000 in
set_option maxHeartbeats 4000000 in
theorem law_4 {p : Program} {l : Launch} {e : Env} {s : State} {m : MethodId} {args : Array Value} {below : List Frame} {meth : Method} {c : Code} {w w2 : wT} {A : Nat → Prop} {Q : State → Prop} {σ τ : Hp} {b L : Nat} {xs : Nat → Int32} {Inv : Hp → Hp → Prop} {x3 : Int32} (E : LE p m meth c s args w w2 A b L xs) (hs : LSteps Inv) (hI : Inv σ τ) (hin : ∀ k : Int32, 1 ≤ k → k ≤ 6 → vp_in (x3 + k) L) (kk : ∀ u u', Inv u u' → YL p l e s m args below meth c w w2 A Q u u' 1616 [(3, .int x3), (2, .ref (w2.1 0)), (1, .ref (w.1 0)), (0, .ref b)] []) : YL p l e s m args below meth c w w2 A Q σ τ 368 [(3, .int x3), (2, .ref (w2.1 0)), (1, .ref (w.1 0)), (0, .ref b)] [] := by
  have hv := ls_4 hs σ τ hI ()
  refine yl_aload_n E dL_law_368 2 rfl ?_
  refine yl_callXi E (yl_runX (rest := []) E (kX11_text l w E.2.2.2.1.1 σ  _ hv) (y_cwV 0 E.1.2.2.2.2 wm_790 wm_791 wm_792 wm_116 wm_793 (by decide +kernel) ⟨Nat.le_of_ble_eq_true rfl, Nat.le_of_ble_eq_true rfl⟩) rfl rfl (Nat.le_of_ble_eq_true rfl) dL_law_369) (fun v0 u0 hk => ?_)
  clear hv; have hv := hk; clear hk
  refine yl_aload_n E dL_law_372 1 rfl ?_
  refine yl_callMi E (yl_runM (rest := [.int v0]) E (kX12_text l w2 E.2.2.2.1.2.1 τ  _ hv) (y_cwV 0 E.1.2.2.2.2 wm_794 wm_755 wm_756 wm_479 wm_757 (by decide +kernel) ⟨Nat.le_of_ble_eq_true rfl, Nat.le_of_ble_eq_true rfl⟩) rfl rfl (Nat.le_of_ble_eq_true rfl) dL_law_373) (fun v1 u1 hk => ?_)
  clear hv; have hv := hk; clear hk
  obtain ⟨hve, hI2⟩ := hv
  exact yl_icmp_eq (tgt := 1616) E dL_law_376 (by decide) (fun _ => kk _ _ hI2) (fun h => absurd hve h)
set_option maxRecDepth 100000 in
set_option maxHeartbeats 4000000 in
theorem law_5 {p : Program} {l : Launch} {e : Env} {s : State} {m : MethodId} {args : Array Value} {below : List Frame} {meth : Method} {c : Code} {w w2 : wT} {A : Nat → Prop} {Q : State → Prop} {σ τ : Hp} {b L : Nat} {xs : Nat → Int32} {Inv : Hp → Hp → Prop} {x3 : Int32} (E : LE p m meth c s args w w2 A b L xs) (hs : LSteps Inv) (hI : Inv σ τ) (hin : ∀ k : Int32, 1 ≤ k → k ≤ 6 → vp_in (x3 + k) L) (kk : ∀ u u', Inv u u' → YL p l e s m args below meth c w w2 A Q u u' 1616 [(3, .int x3), (2, .ref (w2.1 0)), (1, .ref (w.1 0)), (0, .ref b)] []) : YL p l e s m args below meth c w w2 A Q σ τ 381 [(3, .int x3), (2, .ref (w2.1 0)), (1, .ref (w.1 0)), (0, .ref b)] [] := by
  have hv := ls_5 hs σ τ hI (xs (x3 + 1).toNatClampNeg)
  refine yl_aload_n E dL_law_381 2 rfl ?_
  refine yl_aload_n E dL_law_382 3 rfl ?_
  refine yl_iload_n E dL_law_383 0 rfl ?_
  refine yl_iconst (v := 1) E dL_law_384 (by decide) ?_
  refine yl_iadd E dL_law_385 ?_
  refine yl_sld E (hin 1 (by decide) (by decide)) dL_law_386 ?_
  refine yl_callXi E (yl_runX (rest := []) E (kX11_force l w E.2.2.2.1.1 σ (xs (x3 + 1).toNatClampNeg) _ hv) (y_cwV 1 E.1.2.2.2.2 wm_795 wm_796 wm_797 wm_116 wm_798 (by decide +kernel) ⟨Nat.le_of_ble_eq_true rfl, Nat.le_of_ble_eq_true rfl⟩) rfl rfl (Nat.le_of_ble_eq_true rfl) dL_law_387) (fun v0 u0 hk => ?_)
  clear hv; have hv := hk; clear hk
  refine yl_aload_n E dL_law_390 1 rfl ?_
  refine yl_aload_n E dL_law_391 3 rfl ?_
  refine yl_iload_n E dL_law_392 0 rfl ?_
  refine yl_iconst (v := 1) E dL_law_393 (by decide) ?_
  refine yl_iadd E dL_law_394 ?_
  refine yl_sld E (hin 1 (by decide) (by decide)) dL_law_395 ?_
  refine yl_callMi E (yl_runM (rest := [.int v0]) E (kX12_force l w2 E.2.2.2.1.2.1 τ (xs (x3 + 1).toNatClampNeg) _ hv) (y_cwV 1 E.1.2.2.2.2 wm_799 wm_800 wm_801 wm_479 wm_802 (by decide +kernel) ⟨Nat.le_of_ble_eq_true rfl, Nat.le_of_ble_eq_true rfl⟩) rfl rfl (Nat.le_of_ble_eq_true rfl) dL_law_396) (fun v1 u1 hk => ?_)
  clear hv; have hv := hk; clear hk
  obtain ⟨hve, hI2⟩ := hv
  exact yl_icmp_eq (tgt := 1616) E dL_law_399 (by decide) (fun _ => kk _ _ hI2) (fun h => absurd hve h)
set_option maxRecDepth 100000 in
set_option maxHeartbeats 4000000 in
theorem law_6 {p : Program} {l : Launch} {e : Env} {s : State} {m : MethodId} {args : Array Value} {below : List Frame} {meth : Method} {c : Code} {w w2 : wT} {A : Nat → Prop} {Q : State → Prop} {σ τ : Hp} {b L : Nat} {xs : Nat → Int32} {Inv : Hp → Hp → Prop} {x3 : Int32} (E : LE p m meth c s args w w2 A b L xs) (hs : LSteps Inv) (hI : Inv σ τ) (hin : ∀ k : Int32, 1 ≤ k → k ≤ 6 → vp_in (x3 + k) L) (kk : ∀ u u', Inv u u' → YL p l e s m args below meth c w w2 A Q u u' 1616 [(3, .int x3), (2, .ref (w2.1 0)), (1, .ref (w.1 0)), (0, .ref b)] []) : YL p l e s m args below meth c w w2 A Q σ τ 404 [(3, .int x3), (2, .ref (w2.1 0)), (1, .ref (w.1 0)), (0, .ref b)] [] := by
  have hv := ls_6 hs σ τ hI (xs (x3 + 1).toNatClampNeg) (xs (x3 + 2).toNatClampNeg) (xs (x3 + 3).toNatClampNeg) (xs (x3 + 4).toNatClampNeg)
  refine yl_aload_n E dL_law_404 2 rfl ?_
  refine yl_aload_n E dL_law_405 3 rfl ?_
  refine yl_iload_n E dL_law_406 0 rfl ?_
  refine yl_iconst (v := 1) E dL_law_407 (by decide) ?_
  refine yl_iadd E dL_law_408 ?_
  refine yl_sld E (hin 1 (by decide) (by decide)) dL_law_409 ?_
  refine yl_aload_n E dL_law_410 3 rfl ?_
  refine yl_iload_n E dL_law_411 0 rfl ?_
  refine yl_iconst (v := 2) E dL_law_412 (by decide) ?_
  refine yl_iadd E dL_law_413 ?_
  refine yl_sld E (hin 2 (by decide) (by decide)) dL_law_414 ?_
  refine yl_aload_n E dL_law_415 3 rfl ?_
  refine yl_iload_n E dL_law_416 0 rfl ?_
  refine yl_iconst (v := 3) E dL_law_417 (by decide) ?_
  refine yl_iadd E dL_law_418 ?_
  refine yl_sld E (hin 3 (by decide) (by decide)) dL_law_419 ?_
  refine yl_aload_n E dL_law_420 3 rfl ?_
  refine yl_iload_n E dL_law_421 0 rfl ?_
  refine yl_iconst (v := 4) E dL_law_422 (by decide) ?_
  refine yl_iadd E dL_law_423 ?_
  refine yl_sld E (hin 4 (by decide) (by decide)) dL_law_424 ?_
  refine yl_callXi E (yl_runX (rest := []) E (kX11_asks l w E.2.2.2.1.1 σ (xs (x3 + 1).toNatClampNeg) (xs (x3 + 2).toNatClampNeg) (xs (x3 + 3).toNatClampNeg) (xs (x3 + 4).toNatClampNeg) _ hv) (y_cwV 4 E.1.2.2.2.2 wm_803 wm_804 wm_805 wm_116 wm_806 (by decide +kernel) ⟨Nat.le_of_ble_eq_true rfl, Nat.le_of_ble_eq_true rfl⟩) rfl rfl (Nat.le_of_ble_eq_true rfl) dL_law_425) (fun v0 u0 hk => ?_)
  clear hv; have hv := hk; clear hk
  refine yl_aload_n E dL_law_428 1 rfl ?_
  refine yl_aload_n E dL_law_429 3 rfl ?_
  refine yl_iload_n E dL_law_430 0 rfl ?_
  refine yl_iconst (v := 1) E dL_law_431 (by decide) ?_
  refine yl_iadd E dL_law_432 ?_
  refine yl_sld E (hin 1 (by decide) (by decide)) dL_law_433 ?_
  refine yl_aload_n E dL_law_434 3 rfl ?_
  refine yl_iload_n E dL_law_435 0 rfl ?_
  refine yl_iconst (v := 2) E dL_law_436 (by decide) ?_
  refine yl_iadd E dL_law_437 ?_
  refine yl_sld E (hin 2 (by decide) (by decide)) dL_law_438 ?_
  refine yl_aload_n E dL_law_439 3 rfl ?_
  refine yl_iload_n E dL_law_440 0 rfl ?_
  refine yl_iconst (v := 3) E dL_law_441 (by decide) ?_
  refine yl_iadd E dL_law_442 ?_
  refine yl_sld E (hin 3 (by decide) (by decide)) dL_law_443 ?_
  refine yl_aload_n E dL_law_444 3 rfl ?_
  refine yl_iload_n E dL_law_445 0 rfl ?_
  refine yl_iconst (v := 4) E dL_law_446 (by decide) ?_
  refine yl_iadd E dL_law_447 ?_
  refine yl_sld E (hin 4 (by decide) (by decide)) dL_law_448 ?_
  refine yl_callMi E (yl_runM (rest := [.int v0]) E (kX12_asks l w2 E.2.2.2.1.2.1 τ (xs (x3 + 1).toNatClampNeg) (xs (x3 + 2).toNatClampNeg) (xs (x3 + 3).toNatClampNeg) (xs (x3 + 4).toNatClampNeg) _ hv) (y_cwV 4 E.1.2.2.2.2 wm_807 wm_808 wm_809 wm_479 wm_810 (by decide +kernel) ⟨Nat.le_of_ble_eq_true rfl, Nat.le_of_ble_eq_true rfl⟩) rfl rfl (Nat.le_of_ble_eq_true rfl) dL_law_449) (fun v1 u1 hk => ?_)
  clear hv; have hv := hk; clear hk
  obtain ⟨hve, hI2⟩ := hv
  exact yl_icmp_eq (tgt := 1616) E dL_law_452 (by decide) (fun _ => kk _ _ hI2) (fun h => absurd hve h)
set_option maxRecDepth 100000 in
set_option maxHeartbeats 4000000 in
theorem law_7 {p : Program} {l : Launch} {e : Env} {s : State} {m : MethodId} {args : Array Value} {below : List Frame} {meth : Method} {c : Code} {w w2 : wT} {A : Nat → Prop} {Q : State → Prop} {σ τ : Hp} {b L : Nat} {xs : Nat → Int32} {Inv : Hp → Hp → Prop} {x3 : Int32} (E : LE p m meth c s args w w2 A b L xs) (hs : LSteps Inv) (hI : Inv σ τ) (hin : ∀ k : Int32, 1 ≤ k → k ≤ 6 → vp_in (x3 + k) L) (kk : ∀ u u', Inv u u' → YL p l e s m args below meth c w w2 A Q u u' 1616 [(3, .int x3), (2, .ref (w2.1 0)), (1, .ref (w.1 0)), (0, .ref b)] []) : YL p l e s m args below meth c w w2 A Q σ τ 457 [(3, .int x3), (2, .ref (w2.1 0)), (1, .ref (w.1 0)), (0, .ref b)] [] := by
  have hv := ls_7 hs σ τ hI (xs (x3 + 1).toNatClampNeg) (xs (x3 + 2).toNatClampNeg) (xs (x3 + 3).toNatClampNeg)
  refine yl_aload_n E dL_law_457 2 rfl ?_
  refine yl_aload_n E dL_law_458 3 rfl ?_
  refine yl_iload_n E dL_law_459 0 rfl ?_
  refine yl_iconst (v := 1) E dL_law_460 (by decide) ?_
  refine yl_iadd E dL_law_461 ?_
  refine yl_sld E (hin 1 (by decide) (by decide)) dL_law_462 ?_
  refine yl_aload_n E dL_law_463 3 rfl ?_
  refine yl_iload_n E dL_law_464 0 rfl ?_
  refine yl_iconst (v := 2) E dL_law_465 (by decide) ?_
  refine yl_iadd E dL_law_466 ?_
  refine yl_sld E (hin 2 (by decide) (by decide)) dL_law_467 ?_
  refine yl_aload_n E dL_law_468 3 rfl ?_
  refine yl_iload_n E dL_law_469 0 rfl ?_
  refine yl_iconst (v := 3) E dL_law_470 (by decide) ?_
  refine yl_iadd E dL_law_471 ?_
  refine yl_sld E (hin 3 (by decide) (by decide)) dL_law_472 ?_
  refine yl_callXi E (yl_runX (rest := []) E (kX11_thing l w E.2.2.2.1.1 σ (xs (x3 + 1).toNatClampNeg) (xs (x3 + 2).toNatClampNeg) (xs (x3 + 3).toNatClampNeg) _ hv) (y_cwV 3 E.1.2.2.2.2 wm_811 wm_445 wm_446 wm_116 wm_447 (by decide +kernel) ⟨Nat.le_of_ble_eq_true rfl, Nat.le_of_ble_eq_true rfl⟩) rfl rfl (Nat.le_of_ble_eq_true rfl) dL_law_473) (fun v0 u0 hk => ?_)
  clear hv; have hv := hk; clear hk
  refine yl_aload_n E dL_law_476 1 rfl ?_
  refine yl_aload_n E dL_law_477 3 rfl ?_
  refine yl_iload_n E dL_law_478 0 rfl ?_
  refine yl_iconst (v := 1) E dL_law_479 (by decide) ?_
  refine yl_iadd E dL_law_480 ?_
  refine yl_sld E (hin 1 (by decide) (by decide)) dL_law_481 ?_
  refine yl_aload_n E dL_law_482 3 rfl ?_
  refine yl_iload_n E dL_law_483 0 rfl ?_
  refine yl_iconst (v := 2) E dL_law_484 (by decide) ?_
  refine yl_iadd E dL_law_485 ?_
  refine yl_sld E (hin 2 (by decide) (by decide)) dL_law_486 ?_
  refine yl_aload_n E dL_law_487 3 rfl ?_
  refine yl_iload_n E dL_law_488 0 rfl ?_
  refine yl_iconst (v := 3) E dL_law_489 (by decide) ?_
  refine yl_iadd E dL_law_490 ?_
  refine yl_sld E (hin 3 (by decide) (by decide)) dL_law_491 ?_
  refine yl_callMi E (yl_runM (rest := [.int v0]) E (kX12_thing l w2 E.2.2.2.1.2.1 τ (xs (x3 + 1).toNatClampNeg) (xs (x3 + 2).toNatClampNeg) (xs (x3 + 3).toNatClampNeg) _ hv) (y_cwV 3 E.1.2.2.2.2 wm_812 wm_682 wm_683 wm_479 wm_684 (by decide +kernel) ⟨Nat.le_of_ble_eq_true rfl, Nat.le_of_ble_eq_true rfl⟩) rfl rfl (Nat.le_of_ble_eq_true rfl) dL_law_492) (fun v1 u1 hk => ?_)
  clear hv; have hv := hk; clear hk
  obtain ⟨hve, hI2⟩ := hv
  exact yl_icmp_eq (tgt := 1616) E dL_law_495 (by decide) (fun _ => kk _ _ hI2) (fun h => absurd hve h)
set_option maxRecDepth 100000 in
set_option maxHeartbeats 4000000 in
theorem law_8 {p : Program} {l : Launch} {e : Env} {s : State} {m : MethodId} {args : Array Value} {below : List Frame} {meth : Method} {c : Code} {w w2 : wT} {A : Nat → Prop} {Q : State → Prop} {σ τ : Hp} {b L : Nat} {xs : Nat → Int32} {Inv : Hp → Hp → Prop} {x3 : Int32} (E : LE p m meth c s args w w2 A b L xs) (hs : LSteps Inv) (hI : Inv σ τ) (hin : ∀ k : Int32, 1 ≤ k → k ≤ 6 → vp_in (x3 + k) L) (kk : ∀ u u', Inv u u' → YL p l e s m args below meth c w w2 A Q u u' 1616 [(3, .int x3), (2, .ref (w2.1 0)), (1, .ref (w.1 0)), (0, .ref b)] []) : YL p l e s m args below meth c w w2 A Q σ τ 500 [(3, .int x3), (2, .ref (w2.1 0)), (1, .ref (w.1 0)), (0, .ref b)] [] := by
  have hv := ls_8 hs σ τ hI (xs (x3 + 1).toNatClampNeg) (xs (x3 + 2).toNatClampNeg) (xs (x3 + 3).toNatClampNeg)
  refine yl_aload_n E dL_law_500 2 rfl ?_
  refine yl_aload_n E dL_law_501 3 rfl ?_
  refine yl_iload_n E dL_law_502 0 rfl ?_
  refine yl_iconst (v := 1) E dL_law_503 (by decide) ?_
  refine yl_iadd E dL_law_504 ?_
  refine yl_sld E (hin 1 (by decide) (by decide)) dL_law_505 ?_
  refine yl_aload_n E dL_law_506 3 rfl ?_
  refine yl_iload_n E dL_law_507 0 rfl ?_
  refine yl_iconst (v := 2) E dL_law_508 (by decide) ?_
  refine yl_iadd E dL_law_509 ?_
  refine yl_sld E (hin 2 (by decide) (by decide)) dL_law_510 ?_
  refine yl_aload_n E dL_law_511 3 rfl ?_
  refine yl_iload_n E dL_law_512 0 rfl ?_
  refine yl_iconst (v := 3) E dL_law_513 (by decide) ?_
  refine yl_iadd E dL_law_514 ?_
  refine yl_sld E (hin 3 (by decide) (by decide)) dL_law_515 ?_
  refine yl_callXi E (yl_runX (rest := []) E (kX11_put l w E.2.2.2.1.1 σ (xs (x3 + 1).toNatClampNeg) (xs (x3 + 2).toNatClampNeg) (xs (x3 + 3).toNatClampNeg) _ hv) (y_cwV 3 E.1.2.2.2.2 wm_813 wm_814 wm_815 wm_116 wm_816 (by decide +kernel) ⟨Nat.le_of_ble_eq_true rfl, Nat.le_of_ble_eq_true rfl⟩) rfl rfl (Nat.le_of_ble_eq_true rfl) dL_law_516) (fun v0 u0 hk => ?_)
  clear hv; have hv := hk; clear hk
  refine yl_aload_n E dL_law_519 1 rfl ?_
  refine yl_aload_n E dL_law_520 3 rfl ?_
  refine yl_iload_n E dL_law_521 0 rfl ?_
  refine yl_iconst (v := 1) E dL_law_522 (by decide) ?_
  refine yl_iadd E dL_law_523 ?_
  refine yl_sld E (hin 1 (by decide) (by decide)) dL_law_524 ?_
  refine yl_aload_n E dL_law_525 3 rfl ?_
  refine yl_iload_n E dL_law_526 0 rfl ?_
  refine yl_iconst (v := 2) E dL_law_527 (by decide) ?_
  refine yl_iadd E dL_law_528 ?_
  refine yl_sld E (hin 2 (by decide) (by decide)) dL_law_529 ?_
  refine yl_aload_n E dL_law_530 3 rfl ?_
  refine yl_iload_n E dL_law_531 0 rfl ?_
  refine yl_iconst (v := 3) E dL_law_532 (by decide) ?_
  refine yl_iadd E dL_law_533 ?_
  refine yl_sld E (hin 3 (by decide) (by decide)) dL_law_534 ?_
  refine yl_callMi E (yl_runM (rest := [.int v0]) E (kX12_put l w2 E.2.2.2.1.2.1 τ (xs (x3 + 1).toNatClampNeg) (xs (x3 + 2).toNatClampNeg) (xs (x3 + 3).toNatClampNeg) _ hv) (y_cwV 3 E.1.2.2.2.2 wm_817 wm_818 wm_819 wm_479 wm_820 (by decide +kernel) ⟨Nat.le_of_ble_eq_true rfl, Nat.le_of_ble_eq_true rfl⟩) rfl rfl (Nat.le_of_ble_eq_true rfl) dL_law_535) (fun v1 u1 hk => ?_)
  clear hv; have hv := hk; clear hk
  obtain ⟨hve, hI2⟩ := hv
  exact yl_icmp_eq (tgt := 1616) E dL_law_538 (by decide) (fun _ => kk _ _ hI2) (fun h => absurd hve h)
set_option maxRecDepth 100000 in
set_option maxHeartbeats 4000000 in
theorem law_9 {p : Program} {l : Launch} {e : Env} {s : State} {m : MethodId} {args : Array Value} {below : List Frame} {meth : Method} {c : Code} {w w2 : wT} {A : Nat → Prop} {Q : State → Prop} {σ τ : Hp} {b L : Nat} {xs : Nat → Int32} {Inv : Hp → Hp → Prop} {x3 : Int32} (E : LE p m meth c s args w w2 A b L xs) (hs : LSteps Inv) (hI : Inv σ τ) (hin : ∀ k : Int32, 1 ≤ k → k ≤ 6 → vp_in (x3 + k) L) (kk : ∀ u u', Inv u u' → YL p l e s m args below meth c w w2 A Q u u' 1616 [(3, .int x3), (2, .ref (w2.1 0)), (1, .ref (w.1 0)), (0, .ref b)] []) : YL p l e s m args below meth c w w2 A Q σ τ 543 [(3, .int x3), (2, .ref (w2.1 0)), (1, .ref (w.1 0)), (0, .ref b)] [] := by
  have hv := ls_9 hs σ τ hI (xs (x3 + 1).toNatClampNeg) (xs (x3 + 2).toNatClampNeg)
  refine yl_aload_n E dL_law_543 2 rfl ?_
  refine yl_aload_n E dL_law_544 3 rfl ?_
  refine yl_iload_n E dL_law_545 0 rfl ?_
  refine yl_iconst (v := 1) E dL_law_546 (by decide) ?_
  refine yl_iadd E dL_law_547 ?_
  refine yl_sld E (hin 1 (by decide) (by decide)) dL_law_548 ?_
  refine yl_aload_n E dL_law_549 3 rfl ?_
  refine yl_iload_n E dL_law_550 0 rfl ?_
  refine yl_iconst (v := 2) E dL_law_551 (by decide) ?_
  refine yl_iadd E dL_law_552 ?_
  refine yl_sld E (hin 2 (by decide) (by decide)) dL_law_553 ?_
  refine yl_callXi E (yl_runX (rest := []) E (kX11_told l w E.2.2.2.1.1 σ (xs (x3 + 1).toNatClampNeg) (xs (x3 + 2).toNatClampNeg) _ hv) (y_cwV 2 E.1.2.2.2.2 wm_821 wm_822 wm_823 wm_116 wm_824 (by decide +kernel) ⟨Nat.le_of_ble_eq_true rfl, Nat.le_of_ble_eq_true rfl⟩) rfl rfl (Nat.le_of_ble_eq_true rfl) dL_law_554) (fun v0 u0 hk => ?_)
  clear hv; have hv := hk; clear hk
  refine yl_aload_n E dL_law_557 1 rfl ?_
  refine yl_aload_n E dL_law_558 3 rfl ?_
  refine yl_iload_n E dL_law_559 0 rfl ?_
  refine yl_iconst (v := 1) E dL_law_560 (by decide) ?_
  refine yl_iadd E dL_law_561 ?_
  refine yl_sld E (hin 1 (by decide) (by decide)) dL_law_562 ?_
  refine yl_aload_n E dL_law_563 3 rfl ?_
  refine yl_iload_n E dL_law_564 0 rfl ?_
  refine yl_iconst (v := 2) E dL_law_565 (by decide) ?_
  refine yl_iadd E dL_law_566 ?_
  refine yl_sld E (hin 2 (by decide) (by decide)) dL_law_567 ?_
  refine yl_callMi E (yl_runM (rest := [.int v0]) E (kX12_told l w2 E.2.2.2.1.2.1 τ (xs (x3 + 1).toNatClampNeg) (xs (x3 + 2).toNatClampNeg) _ hv) (y_cwV 2 E.1.2.2.2.2 wm_825 wm_826 wm_827 wm_479 wm_828 (by decide +kernel) ⟨Nat.le_of_ble_eq_true rfl, Nat.le_of_ble_eq_true rfl⟩) rfl rfl (Nat.le_of_ble_eq_true rfl) dL_law_568) (fun v1 u1 hk => ?_)
  clear hv; have hv := hk; clear hk
  obtain ⟨hve, hI2⟩ := hv
  exact yl_icmp_eq (tgt := 1616) E dL_law_571 (by decide) (fun _ => kk _ _ hI2) (fun h => absurd hve h)
set_option maxRecDepth 100000 in
set_option maxHeartbeats 4000000 in
theorem law_10 {p : Program} {l : Launch} {e : Env} {s : State} {m : MethodId} {args : Array Value} {below : List Frame} {meth : Method} {c : Code} {w w2 : wT} {A : Nat → Prop} {Q : State → Prop} {σ τ : Hp} {b L : Nat} {xs : Nat → Int32} {Inv : Hp → Hp → Prop} {x3 : Int32} (E : LE p m meth c s args w w2 A b L xs) (hs : LSteps Inv) (hI : Inv σ τ) (hin : ∀ k : Int32, 1 ≤ k → k ≤ 6 → vp_in (x3 + k) L) (kk : ∀ u u', Inv u u' → YL p l e s m args below meth c w w2 A Q u u' 1616 [(3, .int x3), (2, .ref (w2.1 0)), (1, .ref (w.1 0)), (0, .ref b)] []) : YL p l e s m args below meth c w w2 A Q σ τ 576 [(3, .int x3), (2, .ref (w2.1 0)), (1, .ref (w.1 0)), (0, .ref b)] [] := by
  have hv := ls_10 hs σ τ hI (xs (x3 + 1).toNatClampNeg) (xs (x3 + 2).toNatClampNeg) (xs (x3 + 3).toNatClampNeg)
  refine yl_aload_n E dL_law_576 2 rfl ?_
  refine yl_aload_n E dL_law_577 3 rfl ?_
  refine yl_iload_n E dL_law_578 0 rfl ?_
  refine yl_iconst (v := 1) E dL_law_579 (by decide) ?_
  refine yl_iadd E dL_law_580 ?_
  refine yl_sld E (hin 1 (by decide) (by decide)) dL_law_581 ?_
  refine yl_aload_n E dL_law_582 3 rfl ?_
  refine yl_iload_n E dL_law_583 0 rfl ?_
  refine yl_iconst (v := 2) E dL_law_584 (by decide) ?_
  refine yl_iadd E dL_law_585 ?_
  refine yl_sld E (hin 2 (by decide) (by decide)) dL_law_586 ?_
  refine yl_aload_n E dL_law_587 3 rfl ?_
  refine yl_iload_n E dL_law_588 0 rfl ?_
  refine yl_iconst (v := 3) E dL_law_589 (by decide) ?_
  refine yl_iadd E dL_law_590 ?_
  refine yl_sld E (hin 3 (by decide) (by decide)) dL_law_591 ?_
  refine yl_callXi E (yl_runX (rest := []) E (kX11_at l w E.2.2.2.1.1 σ (xs (x3 + 1).toNatClampNeg) (xs (x3 + 2).toNatClampNeg) (xs (x3 + 3).toNatClampNeg) _ hv) (y_cwV 3 E.1.2.2.2.2 wm_829 wm_830 wm_831 wm_116 wm_832 (by decide +kernel) ⟨Nat.le_of_ble_eq_true rfl, Nat.le_of_ble_eq_true rfl⟩) rfl rfl (Nat.le_of_ble_eq_true rfl) dL_law_592) (fun v0 u0 hk => ?_)
  clear hv; have hv := hk; clear hk
  refine yl_aload_n E dL_law_595 1 rfl ?_
  refine yl_aload_n E dL_law_596 3 rfl ?_
  refine yl_iload_n E dL_law_597 0 rfl ?_
  refine yl_iconst (v := 1) E dL_law_598 (by decide) ?_
  refine yl_iadd E dL_law_599 ?_
  refine yl_sld E (hin 1 (by decide) (by decide)) dL_law_600 ?_
  refine yl_aload_n E dL_law_601 3 rfl ?_
  refine yl_iload_n E dL_law_602 0 rfl ?_
  refine yl_iconst (v := 2) E dL_law_603 (by decide) ?_
  refine yl_iadd E dL_law_604 ?_
  refine yl_sld E (hin 2 (by decide) (by decide)) dL_law_605 ?_
  refine yl_aload_n E dL_law_606 3 rfl ?_
  refine yl_iload_n E dL_law_607 0 rfl ?_
  refine yl_iconst (v := 3) E dL_law_608 (by decide) ?_
  refine yl_iadd E dL_law_609 ?_
  refine yl_sld E (hin 3 (by decide) (by decide)) dL_law_610 ?_
  refine yl_callMi E (yl_runM (rest := [.int v0]) E (kX12_at l w2 E.2.2.2.1.2.1 τ (xs (x3 + 1).toNatClampNeg) (xs (x3 + 2).toNatClampNeg) (xs (x3 + 3).toNatClampNeg) _ hv) (y_cwV 3 E.1.2.2.2.2 wm_833 wm_834 wm_835 wm_479 wm_836 (by decide +kernel) ⟨Nat.le_of_ble_eq_true rfl, Nat.le_of_ble_eq_true rfl⟩) rfl rfl (Nat.le_of_ble_eq_true rfl) dL_law_611) (fun v1 u1 hk => ?_)
  clear hv; have hv := hk; clear hk
  obtain ⟨hve, hI2⟩ := hv
  exact yl_icmp_eq (tgt := 1616) E dL_law_614 (by decide) (fun _ => kk _ _ hI2) (fun h => absurd hve h)
set_option maxRecDepth 100000 in
set_option maxHeartbeats 4000000 in
theorem law_11 {p : Program} {l : Launch} {e : Env} {s : State} {m : MethodId} {args : Array Value} {below : List Frame} {meth : Method} {c : Code} {w w2 : wT} {A : Nat → Prop} {Q : State → Prop} {σ τ : Hp} {b L : Nat} {xs : Nat → Int32} {Inv : Hp → Hp → Prop} {x3 : Int32} (E : LE p m meth c s args w w2 A b L xs) (hs : LSteps Inv) (hI : Inv σ τ) (hin : ∀ k : Int32, 1 ≤ k → k ≤ 6 → vp_in (x3 + k) L) (kk : ∀ u u', Inv u u' → YL p l e s m args below meth c w w2 A Q u u' 1616 [(3, .int x3), (2, .ref (w2.1 0)), (1, .ref (w.1 0)), (0, .ref b)] []) : YL p l e s m args below meth c w w2 A Q σ τ 619 [(3, .int x3), (2, .ref (w2.1 0)), (1, .ref (w.1 0)), (0, .ref b)] [] := by
  have hv := ls_11 hs σ τ hI (xs (x3 + 1).toNatClampNeg)
  refine yl_aload_n E dL_law_619 2 rfl ?_
  refine yl_aload_n E dL_law_620 3 rfl ?_
  refine yl_iload_n E dL_law_621 0 rfl ?_
  refine yl_iconst (v := 1) E dL_law_622 (by decide) ?_
  refine yl_iadd E dL_law_623 ?_
  refine yl_sld E (hin 1 (by decide) (by decide)) dL_law_624 ?_
  refine yl_callXi E (yl_runX (rest := []) E (kX11_run l w E.2.2.2.1.1 σ (xs (x3 + 1).toNatClampNeg) _ hv) (y_cwV 1 E.1.2.2.2.2 wm_837 wm_838 wm_839 wm_116 wm_840 (by decide +kernel) ⟨Nat.le_of_ble_eq_true rfl, Nat.le_of_ble_eq_true rfl⟩) rfl rfl (Nat.le_of_ble_eq_true rfl) dL_law_625) (fun v0 u0 hk => ?_)
  clear hv; have hv := hk; clear hk
  refine yl_aload_n E dL_law_628 1 rfl ?_
  refine yl_aload_n E dL_law_629 3 rfl ?_
  refine yl_iload_n E dL_law_630 0 rfl ?_
  refine yl_iconst (v := 1) E dL_law_631 (by decide) ?_
  refine yl_iadd E dL_law_632 ?_
  refine yl_sld E (hin 1 (by decide) (by decide)) dL_law_633 ?_
  refine yl_callMi E (yl_runM (rest := [.int v0]) E (kX12_run l w2 E.2.2.2.1.2.1 τ (xs (x3 + 1).toNatClampNeg) _ hv) (y_cwV 1 E.1.2.2.2.2 wm_841 wm_842 wm_843 wm_479 wm_844 (by decide +kernel) ⟨Nat.le_of_ble_eq_true rfl, Nat.le_of_ble_eq_true rfl⟩) rfl rfl (Nat.le_of_ble_eq_true rfl) dL_law_634) (fun v1 u1 hk => ?_)
  clear hv; have hv := hk; clear hk
  obtain ⟨hve, hI2⟩ := hv
  exact yl_icmp_eq (tgt := 1616) E dL_law_637 (by decide) (fun _ => kk _ _ hI2) (fun h => absurd hve h)
set_option maxRecDepth 100000 in
set_option maxHeartbeats 4000000 in
theorem law_12 {p : Program} {l : Launch} {e : Env} {s : State} {m : MethodId} {args : Array Value} {below : List Frame} {meth : Method} {c : Code} {w w2 : wT} {A : Nat → Prop} {Q : State → Prop} {σ τ : Hp} {b L : Nat} {xs : Nat → Int32} {Inv : Hp → Hp → Prop} {x3 : Int32} (E : LE p m meth c s args w w2 A b L xs) (hs : LSteps Inv) (hI : Inv σ τ) (hin : ∀ k : Int32, 1 ≤ k → k ≤ 6 → vp_in (x3 + k) L) (kk : ∀ u u', Inv u u' → YL p l e s m args below meth c w w2 A Q u u' 1616 [(3, .int x3), (2, .ref (w2.1 0)), (1, .ref (w.1 0)), (0, .ref b)] []) : YL p l e s m args below meth c w w2 A Q σ τ 642 [(3, .int x3), (2, .ref (w2.1 0)), (1, .ref (w.1 0)), (0, .ref b)] [] := by
  have hv := ls_12 hs σ τ hI (xs (x3 + 1).toNatClampNeg) (xs (x3 + 2).toNatClampNeg)
  refine yl_aload_n E dL_law_642 2 rfl ?_
  refine yl_aload_n E dL_law_643 3 rfl ?_
  refine yl_iload_n E dL_law_644 0 rfl ?_
  refine yl_iconst (v := 1) E dL_law_645 (by decide) ?_
  refine yl_iadd E dL_law_646 ?_
  refine yl_sld E (hin 1 (by decide) (by decide)) dL_law_647 ?_
  refine yl_aload_n E dL_law_648 3 rfl ?_
  refine yl_iload_n E dL_law_649 0 rfl ?_
  refine yl_iconst (v := 2) E dL_law_650 (by decide) ?_
  refine yl_iadd E dL_law_651 ?_
  refine yl_sld E (hin 2 (by decide) (by decide)) dL_law_652 ?_
  refine yl_callXi E (yl_runX (rest := []) E (kX11_when l w E.2.2.2.1.1 σ (xs (x3 + 1).toNatClampNeg) (xs (x3 + 2).toNatClampNeg) _ hv) (y_cwV 2 E.1.2.2.2.2 wm_845 wm_846 wm_847 wm_116 wm_848 (by decide +kernel) ⟨Nat.le_of_ble_eq_true rfl, Nat.le_of_ble_eq_true rfl⟩) rfl rfl (Nat.le_of_ble_eq_true rfl) dL_law_653) (fun v0 u0 hk => ?_)
  clear hv; have hv := hk; clear hk
  refine yl_aload_n E dL_law_656 1 rfl ?_
  refine yl_aload_n E dL_law_657 3 rfl ?_
  refine yl_iload_n E dL_law_658 0 rfl ?_
  refine yl_iconst (v := 1) E dL_law_659 (by decide) ?_
  refine yl_iadd E dL_law_660 ?_
  refine yl_sld E (hin 1 (by decide) (by decide)) dL_law_661 ?_
  refine yl_aload_n E dL_law_662 3 rfl ?_
  refine yl_iload_n E dL_law_663 0 rfl ?_
  refine yl_iconst (v := 2) E dL_law_664 (by decide) ?_
  refine yl_iadd E dL_law_665 ?_
  refine yl_sld E (hin 2 (by decide) (by decide)) dL_law_666 ?_
  refine yl_callMi E (yl_runM (rest := [.int v0]) E (kX12_when l w2 E.2.2.2.1.2.1 τ (xs (x3 + 1).toNatClampNeg) (xs (x3 + 2).toNatClampNeg) _ hv) (y_cwV 2 E.1.2.2.2.2 wm_849 wm_850 wm_851 wm_479 wm_852 (by decide +kernel) ⟨Nat.le_of_ble_eq_true rfl, Nat.le_of_ble_eq_true rfl⟩) rfl rfl (Nat.le_of_ble_eq_true rfl) dL_law_667) (fun v1 u1 hk => ?_)
  clear hv; have hv := hk; clear hk
  obtain ⟨hve, hI2⟩ := hv
  exact yl_icmp_eq (tgt := 1616) E dL_law_670 (by decide) (fun _ => kk _ _ hI2) (fun h => absurd hve h)
set_option maxRecDepth 100000 in
set_option maxHeartbeats 4000000 in
theorem law_13 {p : Program} {l : Launch} {e : Env} {s : State} {m : MethodId} {args : Array Value} {below : List Frame} {meth : Method} {c : Code} {w w2 : wT} {A : Nat → Prop} {Q : State → Prop} {σ τ : Hp} {b L : Nat} {xs : Nat → Int32} {Inv : Hp → Hp → Prop} {x3 : Int32} (E : LE p m meth c s args w w2 A b L xs) (hs : LSteps Inv) (hI : Inv σ τ) (hin : ∀ k : Int32, 1 ≤ k → k ≤ 6 → vp_in (x3 + k) L) (kk : ∀ u u', Inv u u' → YL p l e s m args below meth c w w2 A Q u u' 1616 [(3, .int x3), (2, .ref (w2.1 0)), (1, .ref (w.1 0)), (0, .ref b)] []) : YL p l e s m args below meth c w w2 A Q σ τ 675 [(3, .int x3), (2, .ref (w2.1 0)), (1, .ref (w.1 0)), (0, .ref b)] [] := by
  have hv := ls_13 hs σ τ hI (xs (x3 + 1).toNatClampNeg) (xs (x3 + 2).toNatClampNeg)
  refine yl_aload_n E dL_law_675 2 rfl ?_
  refine yl_aload_n E dL_law_676 3 rfl ?_
  refine yl_iload_n E dL_law_677 0 rfl ?_
  refine yl_iconst (v := 1) E dL_law_678 (by decide) ?_
  refine yl_iadd E dL_law_679 ?_
  refine yl_sld E (hin 1 (by decide) (by decide)) dL_law_680 ?_
  refine yl_aload_n E dL_law_681 3 rfl ?_
  refine yl_iload_n E dL_law_682 0 rfl ?_
  refine yl_iconst (v := 2) E dL_law_683 (by decide) ?_
  refine yl_iadd E dL_law_684 ?_
  refine yl_sld E (hin 2 (by decide) (by decide)) dL_law_685 ?_
  refine yl_callXi E (yl_runX (rest := []) E (kX11_meet l w E.2.2.2.1.1 σ (xs (x3 + 1).toNatClampNeg) (xs (x3 + 2).toNatClampNeg) _ hv) (y_cwV 2 E.1.2.2.2.2 wm_853 wm_854 wm_855 wm_116 wm_856 (by decide +kernel) ⟨Nat.le_of_ble_eq_true rfl, Nat.le_of_ble_eq_true rfl⟩) rfl rfl (Nat.le_of_ble_eq_true rfl) dL_law_686) (fun v0 u0 hk => ?_)
  clear hv; have hv := hk; clear hk
  refine yl_aload_n E dL_law_689 1 rfl ?_
  refine yl_aload_n E dL_law_690 3 rfl ?_
  refine yl_iload_n E dL_law_691 0 rfl ?_
  refine yl_iconst (v := 1) E dL_law_692 (by decide) ?_
  refine yl_iadd E dL_law_693 ?_
  refine yl_sld E (hin 1 (by decide) (by decide)) dL_law_694 ?_
  refine yl_aload_n E dL_law_695 3 rfl ?_
  refine yl_iload_n E dL_law_696 0 rfl ?_
  refine yl_iconst (v := 2) E dL_law_697 (by decide) ?_
  refine yl_iadd E dL_law_698 ?_
  refine yl_sld E (hin 2 (by decide) (by decide)) dL_law_699 ?_
  refine yl_callMi E (yl_runM (rest := [.int v0]) E (kX12_meet l w2 E.2.2.2.1.2.1 τ (xs (x3 + 1).toNatClampNeg) (xs (x3 + 2).toNatClampNeg) _ hv) (y_cwV 2 E.1.2.2.2.2 wm_857 wm_858 wm_859 wm_479 wm_860 (by decide +kernel) ⟨Nat.le_of_ble_eq_true rfl, Nat.le_of_ble_eq_true rfl⟩) rfl rfl (Nat.le_of_ble_eq_true rfl) dL_law_700) (fun v1 u1 hk => ?_)
  clear hv; have hv := hk; clear hk
  obtain ⟨hve, hI2⟩ := hv
  exact yl_icmp_eq (tgt := 1616) E dL_law_703 (by decide) (fun _ => kk _ _ hI2) (fun h => absurd hve h)
set_option maxRecDepth 100000 in
set_option maxHeartbeats 4000000 in
theorem law_14 {p : Program} {l : Launch} {e : Env} {s : State} {m : MethodId} {args : Array Value} {below : List Frame} {meth : Method} {c : Code} {w w2 : wT} {A : Nat → Prop} {Q : State → Prop} {σ τ : Hp} {b L : Nat} {xs : Nat → Int32} {Inv : Hp → Hp → Prop} {x3 : Int32} (E : LE p m meth c s args w w2 A b L xs) (hs : LSteps Inv) (hI : Inv σ τ) (hin : ∀ k : Int32, 1 ≤ k → k ≤ 6 → vp_in (x3 + k) L) (kk : ∀ u u', Inv u u' → YL p l e s m args below meth c w w2 A Q u u' 1616 [(3, .int x3), (2, .ref (w2.1 0)), (1, .ref (w.1 0)), (0, .ref b)] []) : YL p l e s m args below meth c w w2 A Q σ τ 708 [(3, .int x3), (2, .ref (w2.1 0)), (1, .ref (w.1 0)), (0, .ref b)] [] := by
  have hv := ls_14 hs σ τ hI (xs (x3 + 1).toNatClampNeg) (xs (x3 + 2).toNatClampNeg)
  refine yl_aload_n E dL_law_708 2 rfl ?_
  refine yl_aload_n E dL_law_709 3 rfl ?_
  refine yl_iload_n E dL_law_710 0 rfl ?_
  refine yl_iconst (v := 1) E dL_law_711 (by decide) ?_
  refine yl_iadd E dL_law_712 ?_
  refine yl_sld E (hin 1 (by decide) (by decide)) dL_law_713 ?_
  refine yl_aload_n E dL_law_714 3 rfl ?_
  refine yl_iload_n E dL_law_715 0 rfl ?_
  refine yl_iconst (v := 2) E dL_law_716 (by decide) ?_
  refine yl_iadd E dL_law_717 ?_
  refine yl_sld E (hin 2 (by decide) (by decide)) dL_law_718 ?_
  refine yl_callXi E (yl_runX (rest := []) E (kX11_inside l w E.2.2.2.1.1 σ (xs (x3 + 1).toNatClampNeg) (xs (x3 + 2).toNatClampNeg) _ hv) (y_cwV 2 E.1.2.2.2.2 wm_861 wm_862 wm_863 wm_116 wm_864 (by decide +kernel) ⟨Nat.le_of_ble_eq_true rfl, Nat.le_of_ble_eq_true rfl⟩) rfl rfl (Nat.le_of_ble_eq_true rfl) dL_law_719) (fun v0 u0 hk => ?_)
  clear hv; have hv := hk; clear hk
  refine yl_aload_n E dL_law_722 1 rfl ?_
  refine yl_aload_n E dL_law_723 3 rfl ?_
  refine yl_iload_n E dL_law_724 0 rfl ?_
  refine yl_iconst (v := 1) E dL_law_725 (by decide) ?_
  refine yl_iadd E dL_law_726 ?_
  refine yl_sld E (hin 1 (by decide) (by decide)) dL_law_727 ?_
  refine yl_aload_n E dL_law_728 3 rfl ?_
  refine yl_iload_n E dL_law_729 0 rfl ?_
  refine yl_iconst (v := 2) E dL_law_730 (by decide) ?_
  refine yl_iadd E dL_law_731 ?_
  refine yl_sld E (hin 2 (by decide) (by decide)) dL_law_732 ?_
  refine yl_callMi E (yl_runM (rest := [.int v0]) E (kX12_inside l w2 E.2.2.2.1.2.1 τ (xs (x3 + 1).toNatClampNeg) (xs (x3 + 2).toNatClampNeg) _ hv) (y_cwV 2 E.1.2.2.2.2 wm_865 wm_866 wm_867 wm_479 wm_868 (by decide +kernel) ⟨Nat.le_of_ble_eq_true rfl, Nat.le_of_ble_eq_true rfl⟩) rfl rfl (Nat.le_of_ble_eq_true rfl) dL_law_733) (fun v1 u1 hk => ?_)
  clear hv; have hv := hk; clear hk
  obtain ⟨hve, hI2⟩ := hv
  exact yl_icmp_eq (tgt := 1616) E dL_law_736 (by decide) (fun _ => kk _ _ hI2) (fun h => absurd hve h)
set_option maxRecDepth 100000 in
set_option maxHeartbeats 4000000 in
theorem law_15 {p : Program} {l : Launch} {e : Env} {s : State} {m : MethodId} {args : Array Value} {below : List Frame} {meth : Method} {c : Code} {w w2 : wT} {A : Nat → Prop} {Q : State → Prop} {σ τ : Hp} {b L : Nat} {xs : Nat → Int32} {Inv : Hp → Hp → Prop} {x3 : Int32} (E : LE p m meth c s args w w2 A b L xs) (hs : LSteps Inv) (hI : Inv σ τ) (hin : ∀ k : Int32, 1 ≤ k → k ≤ 6 → vp_in (x3 + k) L) (kk : ∀ u u', Inv u u' → YL p l e s m args below meth c w w2 A Q u u' 1616 [(3, .int x3), (2, .ref (w2.1 0)), (1, .ref (w.1 0)), (0, .ref b)] []) : YL p l e s m args below meth c w w2 A Q σ τ 741 [(3, .int x3), (2, .ref (w2.1 0)), (1, .ref (w.1 0)), (0, .ref b)] [] := by
  have hv := ls_15 hs σ τ hI (xs (x3 + 1).toNatClampNeg) (xs (x3 + 2).toNatClampNeg)
  refine yl_aload_n E dL_law_741 2 rfl ?_
  refine yl_aload_n E dL_law_742 3 rfl ?_
  refine yl_iload_n E dL_law_743 0 rfl ?_
  refine yl_iconst (v := 1) E dL_law_744 (by decide) ?_
  refine yl_iadd E dL_law_745 ?_
  refine yl_sld E (hin 1 (by decide) (by decide)) dL_law_746 ?_
  refine yl_aload_n E dL_law_747 3 rfl ?_
  refine yl_iload_n E dL_law_748 0 rfl ?_
  refine yl_iconst (v := 2) E dL_law_749 (by decide) ?_
  refine yl_iadd E dL_law_750 ?_
  refine yl_sld E (hin 2 (by decide) (by decide)) dL_law_751 ?_
  refine yl_callXi E (yl_runX (rest := []) E (kX11_hand l w E.2.2.2.1.1 σ (xs (x3 + 1).toNatClampNeg) (xs (x3 + 2).toNatClampNeg) _ hv) (y_cwV 2 E.1.2.2.2.2 wm_869 wm_870 wm_871 wm_116 wm_872 (by decide +kernel) ⟨Nat.le_of_ble_eq_true rfl, Nat.le_of_ble_eq_true rfl⟩) rfl rfl (Nat.le_of_ble_eq_true rfl) dL_law_752) (fun v0 u0 hk => ?_)
  clear hv; have hv := hk; clear hk
  refine yl_aload_n E dL_law_755 1 rfl ?_
  refine yl_aload_n E dL_law_756 3 rfl ?_
  refine yl_iload_n E dL_law_757 0 rfl ?_
  refine yl_iconst (v := 1) E dL_law_758 (by decide) ?_
  refine yl_iadd E dL_law_759 ?_
  refine yl_sld E (hin 1 (by decide) (by decide)) dL_law_760 ?_
  refine yl_aload_n E dL_law_761 3 rfl ?_
  refine yl_iload_n E dL_law_762 0 rfl ?_
  refine yl_iconst (v := 2) E dL_law_763 (by decide) ?_
  refine yl_iadd E dL_law_764 ?_
  refine yl_sld E (hin 2 (by decide) (by decide)) dL_law_765 ?_
  refine yl_callMi E (yl_runM (rest := [.int v0]) E (kX12_hand l w2 E.2.2.2.1.2.1 τ (xs (x3 + 1).toNatClampNeg) (xs (x3 + 2).toNatClampNeg) _ hv) (y_cwV 2 E.1.2.2.2.2 wm_873 wm_874 wm_875 wm_479 wm_876 (by decide +kernel) ⟨Nat.le_of_ble_eq_true rfl, Nat.le_of_ble_eq_true rfl⟩) rfl rfl (Nat.le_of_ble_eq_true rfl) dL_law_766) (fun v1 u1 hk => ?_)
  clear hv; have hv := hk; clear hk
  obtain ⟨hve, hI2⟩ := hv
  exact yl_icmp_eq (tgt := 1616) E dL_law_769 (by decide) (fun _ => kk _ _ hI2) (fun h => absurd hve h)
set_option maxRecDepth 100000 in
set_option maxHeartbeats 4000000 in
theorem law_16 {p : Program} {l : Launch} {e : Env} {s : State} {m : MethodId} {args : Array Value} {below : List Frame} {meth : Method} {c : Code} {w w2 : wT} {A : Nat → Prop} {Q : State → Prop} {σ τ : Hp} {b L : Nat} {xs : Nat → Int32} {Inv : Hp → Hp → Prop} {x3 : Int32} (E : LE p m meth c s args w w2 A b L xs) (hs : LSteps Inv) (hI : Inv σ τ) (hin : ∀ k : Int32, 1 ≤ k → k ≤ 6 → vp_in (x3 + k) L) (kk : ∀ u u', Inv u u' → YL p l e s m args below meth c w w2 A Q u u' 1616 [(3, .int x3), (2, .ref (w2.1 0)), (1, .ref (w.1 0)), (0, .ref b)] []) : YL p l e s m args below meth c w w2 A Q σ τ 774 [(3, .int x3), (2, .ref (w2.1 0)), (1, .ref (w.1 0)), (0, .ref b)] [] := by
  have hv := ls_16 hs σ τ hI (xs (x3 + 1).toNatClampNeg) (xs (x3 + 2).toNatClampNeg)
  refine yl_aload_n E dL_law_774 2 rfl ?_
  refine yl_aload_n E dL_law_775 3 rfl ?_
  refine yl_iload_n E dL_law_776 0 rfl ?_
  refine yl_iconst (v := 1) E dL_law_777 (by decide) ?_
  refine yl_iadd E dL_law_778 ?_
  refine yl_sld E (hin 1 (by decide) (by decide)) dL_law_779 ?_
  refine yl_aload_n E dL_law_780 3 rfl ?_
  refine yl_iload_n E dL_law_781 0 rfl ?_
  refine yl_iconst (v := 2) E dL_law_782 (by decide) ?_
  refine yl_iadd E dL_law_783 ?_
  refine yl_sld E (hin 2 (by decide) (by decide)) dL_law_784 ?_
  refine yl_callXi E (yl_runX (rest := []) E (kX11_first l w E.2.2.2.1.1 σ (xs (x3 + 1).toNatClampNeg) (xs (x3 + 2).toNatClampNeg) _ hv) (y_cwV 2 E.1.2.2.2.2 wm_877 wm_878 wm_879 wm_116 wm_880 (by decide +kernel) ⟨Nat.le_of_ble_eq_true rfl, Nat.le_of_ble_eq_true rfl⟩) rfl rfl (Nat.le_of_ble_eq_true rfl) dL_law_785) (fun v0 u0 hk => ?_)
  clear hv; have hv := hk; clear hk
  refine yl_aload_n E dL_law_788 1 rfl ?_
  refine yl_aload_n E dL_law_789 3 rfl ?_
  refine yl_iload_n E dL_law_790 0 rfl ?_
  refine yl_iconst (v := 1) E dL_law_791 (by decide) ?_
  refine yl_iadd E dL_law_792 ?_
  refine yl_sld E (hin 1 (by decide) (by decide)) dL_law_793 ?_
  refine yl_aload_n E dL_law_794 3 rfl ?_
  refine yl_iload_n E dL_law_795 0 rfl ?_
  refine yl_iconst (v := 2) E dL_law_796 (by decide) ?_
  refine yl_iadd E dL_law_797 ?_
  refine yl_sld E (hin 2 (by decide) (by decide)) dL_law_798 ?_
  refine yl_callMi E (yl_runM (rest := [.int v0]) E (kX12_first l w2 E.2.2.2.1.2.1 τ (xs (x3 + 1).toNatClampNeg) (xs (x3 + 2).toNatClampNeg) _ hv) (y_cwV 2 E.1.2.2.2.2 wm_881 wm_882 wm_883 wm_479 wm_884 (by decide +kernel) ⟨Nat.le_of_ble_eq_true rfl, Nat.le_of_ble_eq_true rfl⟩) rfl rfl (Nat.le_of_ble_eq_true rfl) dL_law_799) (fun v1 u1 hk => ?_)
  clear hv; have hv := hk; clear hk
  obtain ⟨hve, hI2⟩ := hv
  exact yl_icmp_eq (tgt := 1616) E dL_law_802 (by decide) (fun _ => kk _ _ hI2) (fun h => absurd hve h)
set_option maxRecDepth 100000 in
set_option maxHeartbeats 4000000 in
theorem law_17 {p : Program} {l : Launch} {e : Env} {s : State} {m : MethodId} {args : Array Value} {below : List Frame} {meth : Method} {c : Code} {w w2 : wT} {A : Nat → Prop} {Q : State → Prop} {σ τ : Hp} {b L : Nat} {xs : Nat → Int32} {Inv : Hp → Hp → Prop} {x3 : Int32} (E : LE p m meth c s args w w2 A b L xs) (hs : LSteps Inv) (hI : Inv σ τ) (hin : ∀ k : Int32, 1 ≤ k → k ≤ 6 → vp_in (x3 + k) L) (kk : ∀ u u', Inv u u' → YL p l e s m args below meth c w w2 A Q u u' 1616 [(3, .int x3), (2, .ref (w2.1 0)), (1, .ref (w.1 0)), (0, .ref b)] []) : YL p l e s m args below meth c w w2 A Q σ τ 807 [(3, .int x3), (2, .ref (w2.1 0)), (1, .ref (w.1 0)), (0, .ref b)] [] := by
  have hv := ls_17 hs σ τ hI (xs (x3 + 1).toNatClampNeg) (xs (x3 + 2).toNatClampNeg)
  refine yl_aload_n E dL_law_807 2 rfl ?_
  refine yl_aload_n E dL_law_808 3 rfl ?_
  refine yl_iload_n E dL_law_809 0 rfl ?_
  refine yl_iconst (v := 1) E dL_law_810 (by decide) ?_
  refine yl_iadd E dL_law_811 ?_
  refine yl_sld E (hin 1 (by decide) (by decide)) dL_law_812 ?_
  refine yl_aload_n E dL_law_813 3 rfl ?_
  refine yl_iload_n E dL_law_814 0 rfl ?_
  refine yl_iconst (v := 2) E dL_law_815 (by decide) ?_
  refine yl_iadd E dL_law_816 ?_
  refine yl_sld E (hin 2 (by decide) (by decide)) dL_law_817 ?_
  refine yl_callXi E (yl_runX (rest := []) E (kX11_wait l w E.2.2.2.1.1 σ (xs (x3 + 1).toNatClampNeg) (xs (x3 + 2).toNatClampNeg) _ hv) (y_cwV 2 E.1.2.2.2.2 wm_885 wm_886 wm_887 wm_116 wm_888 (by decide +kernel) ⟨Nat.le_of_ble_eq_true rfl, Nat.le_of_ble_eq_true rfl⟩) rfl rfl (Nat.le_of_ble_eq_true rfl) dL_law_818) (fun v0 u0 hk => ?_)
  clear hv; have hv := hk; clear hk
  refine yl_aload_n E dL_law_821 1 rfl ?_
  refine yl_aload_n E dL_law_822 3 rfl ?_
  refine yl_iload_n E dL_law_823 0 rfl ?_
  refine yl_iconst (v := 1) E dL_law_824 (by decide) ?_
  refine yl_iadd E dL_law_825 ?_
  refine yl_sld E (hin 1 (by decide) (by decide)) dL_law_826 ?_
  refine yl_aload_n E dL_law_827 3 rfl ?_
  refine yl_iload_n E dL_law_828 0 rfl ?_
  refine yl_iconst (v := 2) E dL_law_829 (by decide) ?_
  refine yl_iadd E dL_law_830 ?_
  refine yl_sld E (hin 2 (by decide) (by decide)) dL_law_831 ?_
  refine yl_callMi E (yl_runM (rest := [.int v0]) E (kX12_wait l w2 E.2.2.2.1.2.1 τ (xs (x3 + 1).toNatClampNeg) (xs (x3 + 2).toNatClampNeg) _ hv) (y_cwV 2 E.1.2.2.2.2 wm_889 wm_890 wm_891 wm_479 wm_892 (by decide +kernel) ⟨Nat.le_of_ble_eq_true rfl, Nat.le_of_ble_eq_true rfl⟩) rfl rfl (Nat.le_of_ble_eq_true rfl) dL_law_832) (fun v1 u1 hk => ?_)
  clear hv; have hv := hk; clear hk
  obtain ⟨hve, hI2⟩ := hv
  exact yl_icmp_eq (tgt := 1616) E dL_law_835 (by decide) (fun _ => kk _ _ hI2) (fun h => absurd hve h)
set_option maxRecDepth 100000 in
set_option maxHeartbeats 4000000 in
theorem law_18 {p : Program} {l : Launch} {e : Env} {s : State} {m : MethodId} {args : Array Value} {below : List Frame} {meth : Method} {c : Code} {w w2 : wT} {A : Nat → Prop} {Q : State → Prop} {σ τ : Hp} {b L : Nat} {xs : Nat → Int32} {Inv : Hp → Hp → Prop} {x3 : Int32} (E : LE p m meth c s args w w2 A b L xs) (hs : LSteps Inv) (hI : Inv σ τ) (hin : ∀ k : Int32, 1 ≤ k → k ≤ 6 → vp_in (x3 + k) L) (kk : ∀ u u', Inv u u' → YL p l e s m args below meth c w w2 A Q u u' 1616 [(3, .int x3), (2, .ref (w2.1 0)), (1, .ref (w.1 0)), (0, .ref b)] []) : YL p l e s m args below meth c w w2 A Q σ τ 840 [(3, .int x3), (2, .ref (w2.1 0)), (1, .ref (w.1 0)), (0, .ref b)] [] := by
  have hv := ls_18 hs σ τ hI (xs (x3 + 1).toNatClampNeg) (xs (x3 + 2).toNatClampNeg) (xs (x3 + 3).toNatClampNeg)
  refine yl_aload_n E dL_law_840 2 rfl ?_
  refine yl_aload_n E dL_law_841 3 rfl ?_
  refine yl_iload_n E dL_law_842 0 rfl ?_
  refine yl_iconst (v := 1) E dL_law_843 (by decide) ?_
  refine yl_iadd E dL_law_844 ?_
  refine yl_sld E (hin 1 (by decide) (by decide)) dL_law_845 ?_
  refine yl_aload_n E dL_law_846 3 rfl ?_
  refine yl_iload_n E dL_law_847 0 rfl ?_
  refine yl_iconst (v := 2) E dL_law_848 (by decide) ?_
  refine yl_iadd E dL_law_849 ?_
  refine yl_sld E (hin 2 (by decide) (by decide)) dL_law_850 ?_
  refine yl_aload_n E dL_law_851 3 rfl ?_
  refine yl_iload_n E dL_law_852 0 rfl ?_
  refine yl_iconst (v := 3) E dL_law_853 (by decide) ?_
  refine yl_iadd E dL_law_854 ?_
  refine yl_sld E (hin 3 (by decide) (by decide)) dL_law_855 ?_
  refine yl_callXi E (yl_runX (rest := []) E (kX11_toss l w E.2.2.2.1.1 σ (xs (x3 + 1).toNatClampNeg) (xs (x3 + 2).toNatClampNeg) (xs (x3 + 3).toNatClampNeg) _ hv) (y_cwV 3 E.1.2.2.2.2 wm_893 wm_894 wm_895 wm_116 wm_896 (by decide +kernel) ⟨Nat.le_of_ble_eq_true rfl, Nat.le_of_ble_eq_true rfl⟩) rfl rfl (Nat.le_of_ble_eq_true rfl) dL_law_856) (fun v0 u0 hk => ?_)
  clear hv; have hv := hk; clear hk
  refine yl_aload_n E dL_law_859 1 rfl ?_
  refine yl_aload_n E dL_law_860 3 rfl ?_
  refine yl_iload_n E dL_law_861 0 rfl ?_
  refine yl_iconst (v := 1) E dL_law_862 (by decide) ?_
  refine yl_iadd E dL_law_863 ?_
  refine yl_sld E (hin 1 (by decide) (by decide)) dL_law_864 ?_
  refine yl_aload_n E dL_law_865 3 rfl ?_
  refine yl_iload_n E dL_law_866 0 rfl ?_
  refine yl_iconst (v := 2) E dL_law_867 (by decide) ?_
  refine yl_iadd E dL_law_868 ?_
  refine yl_sld E (hin 2 (by decide) (by decide)) dL_law_869 ?_
  refine yl_aload_n E dL_law_870 3 rfl ?_
  refine yl_iload_n E dL_law_871 0 rfl ?_
  refine yl_iconst (v := 3) E dL_law_872 (by decide) ?_
  refine yl_iadd E dL_law_873 ?_
  refine yl_sld E (hin 3 (by decide) (by decide)) dL_law_874 ?_
  refine yl_callMi E (yl_runM (rest := [.int v0]) E (kX12_toss l w2 E.2.2.2.1.2.1 τ (xs (x3 + 1).toNatClampNeg) (xs (x3 + 2).toNatClampNeg) (xs (x3 + 3).toNatClampNeg) _ hv) (y_cwV 3 E.1.2.2.2.2 wm_897 wm_898 wm_899 wm_479 wm_900 (by decide +kernel) ⟨Nat.le_of_ble_eq_true rfl, Nat.le_of_ble_eq_true rfl⟩) rfl rfl (Nat.le_of_ble_eq_true rfl) dL_law_875) (fun v1 u1 hk => ?_)
  clear hv; have hv := hk; clear hk
  obtain ⟨hve, hI2⟩ := hv
  exact yl_icmp_eq (tgt := 1616) E dL_law_878 (by decide) (fun _ => kk _ _ hI2) (fun h => absurd hve h)
set_option maxRecDepth 100000 in
set_option maxHeartbeats 4000000 in
theorem law_19 {p : Program} {l : Launch} {e : Env} {s : State} {m : MethodId} {args : Array Value} {below : List Frame} {meth : Method} {c : Code} {w w2 : wT} {A : Nat → Prop} {Q : State → Prop} {σ τ : Hp} {b L : Nat} {xs : Nat → Int32} {Inv : Hp → Hp → Prop} {x3 : Int32} (E : LE p m meth c s args w w2 A b L xs) (hs : LSteps Inv) (hI : Inv σ τ) (hin : ∀ k : Int32, 1 ≤ k → k ≤ 6 → vp_in (x3 + k) L) (kk : ∀ u u', Inv u u' → YL p l e s m args below meth c w w2 A Q u u' 1616 [(3, .int x3), (2, .ref (w2.1 0)), (1, .ref (w.1 0)), (0, .ref b)] []) : YL p l e s m args below meth c w w2 A Q σ τ 883 [(3, .int x3), (2, .ref (w2.1 0)), (1, .ref (w.1 0)), (0, .ref b)] [] := by
  have hv := ls_19 hs σ τ hI ()
  refine yl_aload_n E dL_law_883 2 rfl ?_
  refine yl_callXi E (yl_runX (rest := []) E (kX11_key l w E.2.2.2.1.1 σ  _ hv) (y_cwV 0 E.1.2.2.2.2 wm_901 wm_902 wm_903 wm_116 wm_904 (by decide +kernel) ⟨Nat.le_of_ble_eq_true rfl, Nat.le_of_ble_eq_true rfl⟩) rfl rfl (Nat.le_of_ble_eq_true rfl) dL_law_884) (fun v0 u0 hk => ?_)
  clear hv; have hv := hk; clear hk
  refine yl_aload_n E dL_law_887 1 rfl ?_
  refine yl_callMi E (yl_runM (rest := [.int v0]) E (kX12_key l w2 E.2.2.2.1.2.1 τ  _ hv) (y_cwV 0 E.1.2.2.2.2 wm_905 wm_906 wm_907 wm_479 wm_908 (by decide +kernel) ⟨Nat.le_of_ble_eq_true rfl, Nat.le_of_ble_eq_true rfl⟩) rfl rfl (Nat.le_of_ble_eq_true rfl) dL_law_888) (fun v1 u1 hk => ?_)
  clear hv; have hv := hk; clear hk
  obtain ⟨hve, hI2⟩ := hv
  exact yl_icmp_eq (tgt := 1616) E dL_law_891 (by decide) (fun _ => kk _ _ hI2) (fun h => absurd hve h)
set_option maxRecDepth 100000 in
set_option maxHeartbeats 4000000 in
theorem law_20 {p : Program} {l : Launch} {e : Env} {s : State} {m : MethodId} {args : Array Value} {below : List Frame} {meth : Method} {c : Code} {w w2 : wT} {A : Nat → Prop} {Q : State → Prop} {σ τ : Hp} {b L : Nat} {xs : Nat → Int32} {Inv : Hp → Hp → Prop} {x3 : Int32} (E : LE p m meth c s args w w2 A b L xs) (hs : LSteps Inv) (hI : Inv σ τ) (hin : ∀ k : Int32, 1 ≤ k → k ≤ 6 → vp_in (x3 + k) L) (kk : ∀ u u', Inv u u' → YL p l e s m args below meth c w w2 A Q u u' 1616 [(3, .int x3), (2, .ref (w2.1 0)), (1, .ref (w.1 0)), (0, .ref b)] []) : YL p l e s m args below meth c w w2 A Q σ τ 896 [(3, .int x3), (2, .ref (w2.1 0)), (1, .ref (w.1 0)), (0, .ref b)] [] := by
  have hv := ls_20 hs σ τ hI (xs (x3 + 1).toNatClampNeg) (xs (x3 + 2).toNatClampNeg) (xs (x3 + 3).toNatClampNeg)
  refine yl_aload_n E dL_law_896 2 rfl ?_
  refine yl_aload_n E dL_law_897 3 rfl ?_
  refine yl_iload_n E dL_law_898 0 rfl ?_
  refine yl_iconst (v := 1) E dL_law_899 (by decide) ?_
  refine yl_iadd E dL_law_900 ?_
  refine yl_sld E (hin 1 (by decide) (by decide)) dL_law_901 ?_
  refine yl_aload_n E dL_law_902 3 rfl ?_
  refine yl_iload_n E dL_law_903 0 rfl ?_
  refine yl_iconst (v := 2) E dL_law_904 (by decide) ?_
  refine yl_iadd E dL_law_905 ?_
  refine yl_sld E (hin 2 (by decide) (by decide)) dL_law_906 ?_
  refine yl_aload_n E dL_law_907 3 rfl ?_
  refine yl_iload_n E dL_law_908 0 rfl ?_
  refine yl_iconst (v := 3) E dL_law_909 (by decide) ?_
  refine yl_iadd E dL_law_910 ?_
  refine yl_sld E (hin 3 (by decide) (by decide)) dL_law_911 ?_
  refine yl_callXi E (yl_runX (rest := []) E (kX11_turn l w E.2.2.2.1.1 σ (xs (x3 + 1).toNatClampNeg) (xs (x3 + 2).toNatClampNeg) (xs (x3 + 3).toNatClampNeg) _ hv) (y_cwV 3 E.1.2.2.2.2 wm_909 wm_910 wm_911 wm_116 wm_912 (by decide +kernel) ⟨Nat.le_of_ble_eq_true rfl, Nat.le_of_ble_eq_true rfl⟩) rfl rfl (Nat.le_of_ble_eq_true rfl) dL_law_912) (fun v0 u0 hk => ?_)
  clear hv; have hv := hk; clear hk
  refine yl_aload_n E dL_law_915 1 rfl ?_
  refine yl_aload_n E dL_law_916 3 rfl ?_
  refine yl_iload_n E dL_law_917 0 rfl ?_
  refine yl_iconst (v := 1) E dL_law_918 (by decide) ?_
  refine yl_iadd E dL_law_919 ?_
  refine yl_sld E (hin 1 (by decide) (by decide)) dL_law_920 ?_
  refine yl_aload_n E dL_law_921 3 rfl ?_
  refine yl_iload_n E dL_law_922 0 rfl ?_
  refine yl_iconst (v := 2) E dL_law_923 (by decide) ?_
  refine yl_iadd E dL_law_924 ?_
  refine yl_sld E (hin 2 (by decide) (by decide)) dL_law_925 ?_
  refine yl_aload_n E dL_law_926 3 rfl ?_
  refine yl_iload_n E dL_law_927 0 rfl ?_
  refine yl_iconst (v := 3) E dL_law_928 (by decide) ?_
  refine yl_iadd E dL_law_929 ?_
  refine yl_sld E (hin 3 (by decide) (by decide)) dL_law_930 ?_
  refine yl_callMi E (yl_runM (rest := [.int v0]) E (kX12_turn l w2 E.2.2.2.1.2.1 τ (xs (x3 + 1).toNatClampNeg) (xs (x3 + 2).toNatClampNeg) (xs (x3 + 3).toNatClampNeg) _ hv) (y_cwV 3 E.1.2.2.2.2 wm_913 wm_914 wm_915 wm_479 wm_916 (by decide +kernel) ⟨Nat.le_of_ble_eq_true rfl, Nat.le_of_ble_eq_true rfl⟩) rfl rfl (Nat.le_of_ble_eq_true rfl) dL_law_931) (fun v1 u1 hk => ?_)
  clear hv; have hv := hk; clear hk
  obtain ⟨hve, hI2⟩ := hv
  exact yl_icmp_eq (tgt := 1616) E dL_law_934 (by decide) (fun _ => kk _ _ hI2) (fun h => absurd hve h)
set_option maxRecDepth 100000 in
set_option maxHeartbeats 4000000 in
theorem law_21 {p : Program} {l : Launch} {e : Env} {s : State} {m : MethodId} {args : Array Value} {below : List Frame} {meth : Method} {c : Code} {w w2 : wT} {A : Nat → Prop} {Q : State → Prop} {σ τ : Hp} {b L : Nat} {xs : Nat → Int32} {Inv : Hp → Hp → Prop} {x3 : Int32} (E : LE p m meth c s args w w2 A b L xs) (hs : LSteps Inv) (hI : Inv σ τ) (hin : ∀ k : Int32, 1 ≤ k → k ≤ 6 → vp_in (x3 + k) L) (kk : ∀ u u', Inv u u' → YL p l e s m args below meth c w w2 A Q u u' 1616 [(3, .int x3), (2, .ref (w2.1 0)), (1, .ref (w.1 0)), (0, .ref b)] []) : YL p l e s m args below meth c w w2 A Q σ τ 939 [(3, .int x3), (2, .ref (w2.1 0)), (1, .ref (w.1 0)), (0, .ref b)] [] := by
  have hv := ls_21 hs σ τ hI (xs (x3 + 1).toNatClampNeg) (xs (x3 + 2).toNatClampNeg)
  refine yl_aload_n E dL_law_939 2 rfl ?_
  refine yl_aload_n E dL_law_940 3 rfl ?_
  refine yl_iload_n E dL_law_941 0 rfl ?_
  refine yl_iconst (v := 1) E dL_law_942 (by decide) ?_
  refine yl_iadd E dL_law_943 ?_
  refine yl_sld E (hin 1 (by decide) (by decide)) dL_law_944 ?_
  refine yl_aload_n E dL_law_945 3 rfl ?_
  refine yl_iload_n E dL_law_946 0 rfl ?_
  refine yl_iconst (v := 2) E dL_law_947 (by decide) ?_
  refine yl_iadd E dL_law_948 ?_
  refine yl_sld E (hin 2 (by decide) (by decide)) dL_law_949 ?_
  refine yl_callXi E (yl_runX (rest := []) E (kX11_net l w E.2.2.2.1.1 σ (xs (x3 + 1).toNatClampNeg) (xs (x3 + 2).toNatClampNeg) _ hv) (y_cwV 2 E.1.2.2.2.2 wm_917 wm_918 wm_919 wm_116 wm_920 (by decide +kernel) ⟨Nat.le_of_ble_eq_true rfl, Nat.le_of_ble_eq_true rfl⟩) rfl rfl (Nat.le_of_ble_eq_true rfl) dL_law_950) (fun v0 u0 hk => ?_)
  clear hv; have hv := hk; clear hk
  refine yl_aload_n E dL_law_953 1 rfl ?_
  refine yl_aload_n E dL_law_954 3 rfl ?_
  refine yl_iload_n E dL_law_955 0 rfl ?_
  refine yl_iconst (v := 1) E dL_law_956 (by decide) ?_
  refine yl_iadd E dL_law_957 ?_
  refine yl_sld E (hin 1 (by decide) (by decide)) dL_law_958 ?_
  refine yl_aload_n E dL_law_959 3 rfl ?_
  refine yl_iload_n E dL_law_960 0 rfl ?_
  refine yl_iconst (v := 2) E dL_law_961 (by decide) ?_
  refine yl_iadd E dL_law_962 ?_
  refine yl_sld E (hin 2 (by decide) (by decide)) dL_law_963 ?_
  refine yl_callMi E (yl_runM (rest := [.int v0]) E (kX12_net l w2 E.2.2.2.1.2.1 τ (xs (x3 + 1).toNatClampNeg) (xs (x3 + 2).toNatClampNeg) _ hv) (y_cwV 2 E.1.2.2.2.2 wm_921 wm_922 wm_923 wm_479 wm_924 (by decide +kernel) ⟨Nat.le_of_ble_eq_true rfl, Nat.le_of_ble_eq_true rfl⟩) rfl rfl (Nat.le_of_ble_eq_true rfl) dL_law_964) (fun v1 u1 hk => ?_)
  clear hv; have hv := hk; clear hk
  obtain ⟨hve, hI2⟩ := hv
  exact yl_icmp_eq (tgt := 1616) E dL_law_967 (by decide) (fun _ => kk _ _ hI2) (fun h => absurd hve h)
set_option maxRecDepth 100000 in
set_option maxHeartbeats 4000000 in
theorem law_22 {p : Program} {l : Launch} {e : Env} {s : State} {m : MethodId} {args : Array Value} {below : List Frame} {meth : Method} {c : Code} {w w2 : wT} {A : Nat → Prop} {Q : State → Prop} {σ τ : Hp} {b L : Nat} {xs : Nat → Int32} {Inv : Hp → Hp → Prop} {x3 : Int32} (E : LE p m meth c s args w w2 A b L xs) (hs : LSteps Inv) (hI : Inv σ τ) (hin : ∀ k : Int32, 1 ≤ k → k ≤ 6 → vp_in (x3 + k) L) (kk : ∀ u u', Inv u u' → YL p l e s m args below meth c w w2 A Q u u' 1616 [(3, .int x3), (2, .ref (w2.1 0)), (1, .ref (w.1 0)), (0, .ref b)] []) : YL p l e s m args below meth c w w2 A Q σ τ 972 [(3, .int x3), (2, .ref (w2.1 0)), (1, .ref (w.1 0)), (0, .ref b)] [] := by
  have hv := ls_22 hs σ τ hI (xs (x3 + 1).toNatClampNeg) (xs (x3 + 2).toNatClampNeg)
  refine yl_aload_n E dL_law_972 2 rfl ?_
  refine yl_aload_n E dL_law_973 3 rfl ?_
  refine yl_iload_n E dL_law_974 0 rfl ?_
  refine yl_iconst (v := 1) E dL_law_975 (by decide) ?_
  refine yl_iadd E dL_law_976 ?_
  refine yl_sld E (hin 1 (by decide) (by decide)) dL_law_977 ?_
  refine yl_aload_n E dL_law_978 3 rfl ?_
  refine yl_iload_n E dL_law_979 0 rfl ?_
  refine yl_iconst (v := 2) E dL_law_980 (by decide) ?_
  refine yl_iadd E dL_law_981 ?_
  refine yl_sld E (hin 2 (by decide) (by decide)) dL_law_982 ?_
  refine yl_callXi E (yl_runX (rest := []) E (kX11_can l w E.2.2.2.1.1 σ (xs (x3 + 1).toNatClampNeg) (xs (x3 + 2).toNatClampNeg) _ hv) (y_cwV 2 E.1.2.2.2.2 wm_925 wm_926 wm_927 wm_116 wm_928 (by decide +kernel) ⟨Nat.le_of_ble_eq_true rfl, Nat.le_of_ble_eq_true rfl⟩) rfl rfl (Nat.le_of_ble_eq_true rfl) dL_law_983) (fun v0 u0 hk => ?_)
  clear hv; have hv := hk; clear hk
  refine yl_aload_n E dL_law_986 1 rfl ?_
  refine yl_aload_n E dL_law_987 3 rfl ?_
  refine yl_iload_n E dL_law_988 0 rfl ?_
  refine yl_iconst (v := 1) E dL_law_989 (by decide) ?_
  refine yl_iadd E dL_law_990 ?_
  refine yl_sld E (hin 1 (by decide) (by decide)) dL_law_991 ?_
  refine yl_aload_n E dL_law_992 3 rfl ?_
  refine yl_iload_n E dL_law_993 0 rfl ?_
  refine yl_iconst (v := 2) E dL_law_994 (by decide) ?_
  refine yl_iadd E dL_law_995 ?_
  refine yl_sld E (hin 2 (by decide) (by decide)) dL_law_996 ?_
  refine yl_callMi E (yl_runM (rest := [.int v0]) E (kX12_can l w2 E.2.2.2.1.2.1 τ (xs (x3 + 1).toNatClampNeg) (xs (x3 + 2).toNatClampNeg) _ hv) (y_cwV 2 E.1.2.2.2.2 wm_929 wm_930 wm_931 wm_479 wm_932 (by decide +kernel) ⟨Nat.le_of_ble_eq_true rfl, Nat.le_of_ble_eq_true rfl⟩) rfl rfl (Nat.le_of_ble_eq_true rfl) dL_law_997) (fun v1 u1 hk => ?_)
  clear hv; have hv := hk; clear hk
  obtain ⟨hve, hI2⟩ := hv
  exact yl_icmp_eq (tgt := 1616) E dL_law_1000 (by decide) (fun _ => kk _ _ hI2) (fun h => absurd hve h)
set_option maxRecDepth 100000 in
set_option maxHeartbeats 4000000 in
theorem law_23 {p : Program} {l : Launch} {e : Env} {s : State} {m : MethodId} {args : Array Value} {below : List Frame} {meth : Method} {c : Code} {w w2 : wT} {A : Nat → Prop} {Q : State → Prop} {σ τ : Hp} {b L : Nat} {xs : Nat → Int32} {Inv : Hp → Hp → Prop} {x3 : Int32} (E : LE p m meth c s args w w2 A b L xs) (hs : LSteps Inv) (hI : Inv σ τ) (hin : ∀ k : Int32, 1 ≤ k → k ≤ 6 → vp_in (x3 + k) L) (kk : ∀ u u', Inv u u' → YL p l e s m args below meth c w w2 A Q u u' 1616 [(3, .int x3), (2, .ref (w2.1 0)), (1, .ref (w.1 0)), (0, .ref b)] []) : YL p l e s m args below meth c w w2 A Q σ τ 1005 [(3, .int x3), (2, .ref (w2.1 0)), (1, .ref (w.1 0)), (0, .ref b)] [] := by
  have hv := ls_23 hs σ τ hI (xs (x3 + 1).toNatClampNeg) (xs (x3 + 2).toNatClampNeg) (xs (x3 + 3).toNatClampNeg)
  refine yl_aload_n E dL_law_1005 2 rfl ?_
  refine yl_aload_n E dL_law_1006 3 rfl ?_
  refine yl_iload_n E dL_law_1007 0 rfl ?_
  refine yl_iconst (v := 1) E dL_law_1008 (by decide) ?_
  refine yl_iadd E dL_law_1009 ?_
  refine yl_sld E (hin 1 (by decide) (by decide)) dL_law_1010 ?_
  refine yl_aload_n E dL_law_1011 3 rfl ?_
  refine yl_iload_n E dL_law_1012 0 rfl ?_
  refine yl_iconst (v := 2) E dL_law_1013 (by decide) ?_
  refine yl_iadd E dL_law_1014 ?_
  refine yl_sld E (hin 2 (by decide) (by decide)) dL_law_1015 ?_
  refine yl_aload_n E dL_law_1016 3 rfl ?_
  refine yl_iload_n E dL_law_1017 0 rfl ?_
  refine yl_iconst (v := 3) E dL_law_1018 (by decide) ?_
  refine yl_iadd E dL_law_1019 ?_
  refine yl_sld E (hin 3 (by decide) (by decide)) dL_law_1020 ?_
  refine yl_callXi E (yl_runX (rest := []) E (kX11_look l w E.2.2.2.1.1 σ (xs (x3 + 1).toNatClampNeg) (xs (x3 + 2).toNatClampNeg) (xs (x3 + 3).toNatClampNeg) _ hv) (y_cwV 3 E.1.2.2.2.2 wm_933 wm_934 wm_935 wm_116 wm_936 (by decide +kernel) ⟨Nat.le_of_ble_eq_true rfl, Nat.le_of_ble_eq_true rfl⟩) rfl rfl (Nat.le_of_ble_eq_true rfl) dL_law_1021) (fun v0 u0 hk => ?_)
  clear hv; have hv := hk; clear hk
  refine yl_aload_n E dL_law_1024 1 rfl ?_
  refine yl_aload_n E dL_law_1025 3 rfl ?_
  refine yl_iload_n E dL_law_1026 0 rfl ?_
  refine yl_iconst (v := 1) E dL_law_1027 (by decide) ?_
  refine yl_iadd E dL_law_1028 ?_
  refine yl_sld E (hin 1 (by decide) (by decide)) dL_law_1029 ?_
  refine yl_aload_n E dL_law_1030 3 rfl ?_
  refine yl_iload_n E dL_law_1031 0 rfl ?_
  refine yl_iconst (v := 2) E dL_law_1032 (by decide) ?_
  refine yl_iadd E dL_law_1033 ?_
  refine yl_sld E (hin 2 (by decide) (by decide)) dL_law_1034 ?_
  refine yl_aload_n E dL_law_1035 3 rfl ?_
  refine yl_iload_n E dL_law_1036 0 rfl ?_
  refine yl_iconst (v := 3) E dL_law_1037 (by decide) ?_
  refine yl_iadd E dL_law_1038 ?_
  refine yl_sld E (hin 3 (by decide) (by decide)) dL_law_1039 ?_
  refine yl_callMi E (yl_runM (rest := [.int v0]) E (kX12_look l w2 E.2.2.2.1.2.1 τ (xs (x3 + 1).toNatClampNeg) (xs (x3 + 2).toNatClampNeg) (xs (x3 + 3).toNatClampNeg) _ hv) (y_cwV 3 E.1.2.2.2.2 wm_937 wm_938 wm_939 wm_479 wm_940 (by decide +kernel) ⟨Nat.le_of_ble_eq_true rfl, Nat.le_of_ble_eq_true rfl⟩) rfl rfl (Nat.le_of_ble_eq_true rfl) dL_law_1040) (fun v1 u1 hk => ?_)
  clear hv; have hv := hk; clear hk
  obtain ⟨hve, hI2⟩ := hv
  exact yl_icmp_eq (tgt := 1616) E dL_law_1043 (by decide) (fun _ => kk _ _ hI2) (fun h => absurd hve h)
set_option maxRecDepth 100000 in
set_option maxHeartbeats 4000000 in
theorem law_24 {p : Program} {l : Launch} {e : Env} {s : State} {m : MethodId} {args : Array Value} {below : List Frame} {meth : Method} {c : Code} {w w2 : wT} {A : Nat → Prop} {Q : State → Prop} {σ τ : Hp} {b L : Nat} {xs : Nat → Int32} {Inv : Hp → Hp → Prop} {x3 : Int32} (E : LE p m meth c s args w w2 A b L xs) (hs : LSteps Inv) (hI : Inv σ τ) (hin : ∀ k : Int32, 1 ≤ k → k ≤ 6 → vp_in (x3 + k) L) (kk : ∀ u u', Inv u u' → YL p l e s m args below meth c w w2 A Q u u' 1616 [(3, .int x3), (2, .ref (w2.1 0)), (1, .ref (w.1 0)), (0, .ref b)] []) : YL p l e s m args below meth c w w2 A Q σ τ 1048 [(3, .int x3), (2, .ref (w2.1 0)), (1, .ref (w.1 0)), (0, .ref b)] [] := by
  have hv := ls_24 hs σ τ hI (xs (x3 + 1).toNatClampNeg) (xs (x3 + 2).toNatClampNeg) (xs (x3 + 3).toNatClampNeg)
  refine yl_aload_n E dL_law_1048 2 rfl ?_
  refine yl_aload_n E dL_law_1049 3 rfl ?_
  refine yl_iload_n E dL_law_1050 0 rfl ?_
  refine yl_iconst (v := 1) E dL_law_1051 (by decide) ?_
  refine yl_iadd E dL_law_1052 ?_
  refine yl_sld E (hin 1 (by decide) (by decide)) dL_law_1053 ?_
  refine yl_aload_n E dL_law_1054 3 rfl ?_
  refine yl_iload_n E dL_law_1055 0 rfl ?_
  refine yl_iconst (v := 2) E dL_law_1056 (by decide) ?_
  refine yl_iadd E dL_law_1057 ?_
  refine yl_sld E (hin 2 (by decide) (by decide)) dL_law_1058 ?_
  refine yl_aload_n E dL_law_1059 3 rfl ?_
  refine yl_iload_n E dL_law_1060 0 rfl ?_
  refine yl_iconst (v := 3) E dL_law_1061 (by decide) ?_
  refine yl_iadd E dL_law_1062 ?_
  refine yl_sld E (hin 3 (by decide) (by decide)) dL_law_1063 ?_
  refine yl_callXi E (yl_runX (rest := []) E (kX11_went l w E.2.2.2.1.1 σ (xs (x3 + 1).toNatClampNeg) (xs (x3 + 2).toNatClampNeg) (xs (x3 + 3).toNatClampNeg) _ hv) (y_cwV 3 E.1.2.2.2.2 wm_941 wm_942 wm_943 wm_116 wm_944 (by decide +kernel) ⟨Nat.le_of_ble_eq_true rfl, Nat.le_of_ble_eq_true rfl⟩) rfl rfl (Nat.le_of_ble_eq_true rfl) dL_law_1064) (fun v0 u0 hk => ?_)
  clear hv; have hv := hk; clear hk
  refine yl_aload_n E dL_law_1067 1 rfl ?_
  refine yl_aload_n E dL_law_1068 3 rfl ?_
  refine yl_iload_n E dL_law_1069 0 rfl ?_
  refine yl_iconst (v := 1) E dL_law_1070 (by decide) ?_
  refine yl_iadd E dL_law_1071 ?_
  refine yl_sld E (hin 1 (by decide) (by decide)) dL_law_1072 ?_
  refine yl_aload_n E dL_law_1073 3 rfl ?_
  refine yl_iload_n E dL_law_1074 0 rfl ?_
  refine yl_iconst (v := 2) E dL_law_1075 (by decide) ?_
  refine yl_iadd E dL_law_1076 ?_
  refine yl_sld E (hin 2 (by decide) (by decide)) dL_law_1077 ?_
  refine yl_aload_n E dL_law_1078 3 rfl ?_
  refine yl_iload_n E dL_law_1079 0 rfl ?_
  refine yl_iconst (v := 3) E dL_law_1080 (by decide) ?_
  refine yl_iadd E dL_law_1081 ?_
  refine yl_sld E (hin 3 (by decide) (by decide)) dL_law_1082 ?_
  refine yl_callMi E (yl_runM (rest := [.int v0]) E (kX12_went l w2 E.2.2.2.1.2.1 τ (xs (x3 + 1).toNatClampNeg) (xs (x3 + 2).toNatClampNeg) (xs (x3 + 3).toNatClampNeg) _ hv) (y_cwV 3 E.1.2.2.2.2 wm_945 wm_946 wm_947 wm_479 wm_948 (by decide +kernel) ⟨Nat.le_of_ble_eq_true rfl, Nat.le_of_ble_eq_true rfl⟩) rfl rfl (Nat.le_of_ble_eq_true rfl) dL_law_1083) (fun v1 u1 hk => ?_)
  clear hv; have hv := hk; clear hk
  obtain ⟨hve, hI2⟩ := hv
  exact yl_icmp_eq (tgt := 1616) E dL_law_1086 (by decide) (fun _ => kk _ _ hI2) (fun h => absurd hve h)
set_option maxRecDepth 100000 in
set_option maxHeartbeats 4000000 in
theorem law_25 {p : Program} {l : Launch} {e : Env} {s : State} {m : MethodId} {args : Array Value} {below : List Frame} {meth : Method} {c : Code} {w w2 : wT} {A : Nat → Prop} {Q : State → Prop} {σ τ : Hp} {b L : Nat} {xs : Nat → Int32} {Inv : Hp → Hp → Prop} {x3 : Int32} (E : LE p m meth c s args w w2 A b L xs) (hs : LSteps Inv) (hI : Inv σ τ) (hin : ∀ k : Int32, 1 ≤ k → k ≤ 6 → vp_in (x3 + k) L) (kk : ∀ u u', Inv u u' → YL p l e s m args below meth c w w2 A Q u u' 1616 [(3, .int x3), (2, .ref (w2.1 0)), (1, .ref (w.1 0)), (0, .ref b)] []) : YL p l e s m args below meth c w w2 A Q σ τ 1091 [(3, .int x3), (2, .ref (w2.1 0)), (1, .ref (w.1 0)), (0, .ref b)] [] := by
  have hv := ls_25 hs σ τ hI (xs (x3 + 1).toNatClampNeg) (xs (x3 + 2).toNatClampNeg) (xs (x3 + 3).toNatClampNeg)
  refine yl_aload_n E dL_law_1091 2 rfl ?_
  refine yl_aload_n E dL_law_1092 3 rfl ?_
  refine yl_iload_n E dL_law_1093 0 rfl ?_
  refine yl_iconst (v := 1) E dL_law_1094 (by decide) ?_
  refine yl_iadd E dL_law_1095 ?_
  refine yl_sld E (hin 1 (by decide) (by decide)) dL_law_1096 ?_
  refine yl_aload_n E dL_law_1097 3 rfl ?_
  refine yl_iload_n E dL_law_1098 0 rfl ?_
  refine yl_iconst (v := 2) E dL_law_1099 (by decide) ?_
  refine yl_iadd E dL_law_1100 ?_
  refine yl_sld E (hin 2 (by decide) (by decide)) dL_law_1101 ?_
  refine yl_aload_n E dL_law_1102 3 rfl ?_
  refine yl_iload_n E dL_law_1103 0 rfl ?_
  refine yl_iconst (v := 3) E dL_law_1104 (by decide) ?_
  refine yl_iadd E dL_law_1105 ?_
  refine yl_sld E (hin 3 (by decide) (by decide)) dL_law_1106 ?_
  refine yl_callXl E (yl_runX (rest := []) E (kX11_search l w E.2.2.2.1.1 σ (xs (x3 + 1).toNatClampNeg) (xs (x3 + 2).toNatClampNeg) (xs (x3 + 3).toNatClampNeg) _ hv) (y_cwV 3 E.1.2.2.2.2 wm_949 wm_950 wm_951 wm_116 wm_952 (by decide +kernel) ⟨Nat.le_of_ble_eq_true rfl, Nat.le_of_ble_eq_true rfl⟩) rfl rfl (Nat.le_of_ble_eq_true rfl) dL_law_1107) (fun v0 u0 hk => ?_)
  clear hv; have hv := hk; clear hk
  refine yl_aload_n E dL_law_1110 1 rfl ?_
  refine yl_aload_n E dL_law_1111 3 rfl ?_
  refine yl_iload_n E dL_law_1112 0 rfl ?_
  refine yl_iconst (v := 1) E dL_law_1113 (by decide) ?_
  refine yl_iadd E dL_law_1114 ?_
  refine yl_sld E (hin 1 (by decide) (by decide)) dL_law_1115 ?_
  refine yl_aload_n E dL_law_1116 3 rfl ?_
  refine yl_iload_n E dL_law_1117 0 rfl ?_
  refine yl_iconst (v := 2) E dL_law_1118 (by decide) ?_
  refine yl_iadd E dL_law_1119 ?_
  refine yl_sld E (hin 2 (by decide) (by decide)) dL_law_1120 ?_
  refine yl_aload_n E dL_law_1121 3 rfl ?_
  refine yl_iload_n E dL_law_1122 0 rfl ?_
  refine yl_iconst (v := 3) E dL_law_1123 (by decide) ?_
  refine yl_iadd E dL_law_1124 ?_
  refine yl_sld E (hin 3 (by decide) (by decide)) dL_law_1125 ?_
  refine yl_callMl E (yl_runM (rest := [.long v0]) E (kX12_search l w2 E.2.2.2.1.2.1 τ (xs (x3 + 1).toNatClampNeg) (xs (x3 + 2).toNatClampNeg) (xs (x3 + 3).toNatClampNeg) _ hv) (y_cwV 3 E.1.2.2.2.2 wm_953 wm_954 wm_955 wm_479 wm_956 (by decide +kernel) ⟨Nat.le_of_ble_eq_true rfl, Nat.le_of_ble_eq_true rfl⟩) rfl rfl (Nat.le_of_ble_eq_true rfl) dL_law_1126) (fun v1 u1 hk => ?_)
  clear hv; have hv := hk; clear hk
  obtain ⟨hve, hI2⟩ := hv
  refine yl_lcmp E dL_law_1129 ?_
  exact yl_if_eq (tgt := 1616) E dL_law_1130 (by decide) (fun _ => kk _ _ hI2) (fun h => absurd (by rw [hve]; exact lg_cmp_self) h)
set_option maxRecDepth 100000 in
set_option maxHeartbeats 4000000 in
theorem law_26 {p : Program} {l : Launch} {e : Env} {s : State} {m : MethodId} {args : Array Value} {below : List Frame} {meth : Method} {c : Code} {w w2 : wT} {A : Nat → Prop} {Q : State → Prop} {σ τ : Hp} {b L : Nat} {xs : Nat → Int32} {Inv : Hp → Hp → Prop} {x3 : Int32} (E : LE p m meth c s args w w2 A b L xs) (hs : LSteps Inv) (hI : Inv σ τ) (hin : ∀ k : Int32, 1 ≤ k → k ≤ 6 → vp_in (x3 + k) L) (kk : ∀ u u', Inv u u' → YL p l e s m args below meth c w w2 A Q u u' 1616 [(3, .int x3), (2, .ref (w2.1 0)), (1, .ref (w.1 0)), (0, .ref b)] []) : YL p l e s m args below meth c w w2 A Q σ τ 1135 [(3, .int x3), (2, .ref (w2.1 0)), (1, .ref (w.1 0)), (0, .ref b)] [] := by
  have hv := ls_26 hs σ τ hI (xs (x3 + 1).toNatClampNeg) (xs (x3 + 2).toNatClampNeg)
  refine yl_aload_n E dL_law_1135 2 rfl ?_
  refine yl_aload_n E dL_law_1136 3 rfl ?_
  refine yl_iload_n E dL_law_1137 0 rfl ?_
  refine yl_iconst (v := 1) E dL_law_1138 (by decide) ?_
  refine yl_iadd E dL_law_1139 ?_
  refine yl_sld E (hin 1 (by decide) (by decide)) dL_law_1140 ?_
  refine yl_aload_n E dL_law_1141 3 rfl ?_
  refine yl_iload_n E dL_law_1142 0 rfl ?_
  refine yl_iconst (v := 2) E dL_law_1143 (by decide) ?_
  refine yl_iadd E dL_law_1144 ?_
  refine yl_sld E (hin 2 (by decide) (by decide)) dL_law_1145 ?_
  refine yl_callXi E (yl_runX (rest := []) E (kX11_judge l w E.2.2.2.1.1 σ (xs (x3 + 1).toNatClampNeg) (xs (x3 + 2).toNatClampNeg) _ hv) (y_cwV 2 E.1.2.2.2.2 wm_957 wm_958 wm_959 wm_116 wm_960 (by decide +kernel) ⟨Nat.le_of_ble_eq_true rfl, Nat.le_of_ble_eq_true rfl⟩) rfl rfl (Nat.le_of_ble_eq_true rfl) dL_law_1146) (fun v0 u0 hk => ?_)
  clear hv; have hv := hk; clear hk
  refine yl_aload_n E dL_law_1149 1 rfl ?_
  refine yl_aload_n E dL_law_1150 3 rfl ?_
  refine yl_iload_n E dL_law_1151 0 rfl ?_
  refine yl_iconst (v := 1) E dL_law_1152 (by decide) ?_
  refine yl_iadd E dL_law_1153 ?_
  refine yl_sld E (hin 1 (by decide) (by decide)) dL_law_1154 ?_
  refine yl_aload_n E dL_law_1155 3 rfl ?_
  refine yl_iload_n E dL_law_1156 0 rfl ?_
  refine yl_iconst (v := 2) E dL_law_1157 (by decide) ?_
  refine yl_iadd E dL_law_1158 ?_
  refine yl_sld E (hin 2 (by decide) (by decide)) dL_law_1159 ?_
  refine yl_callMi E (yl_runM (rest := [.int v0]) E (kX12_judge l w2 E.2.2.2.1.2.1 τ (xs (x3 + 1).toNatClampNeg) (xs (x3 + 2).toNatClampNeg) _ hv) (y_cwV 2 E.1.2.2.2.2 wm_961 wm_962 wm_963 wm_479 wm_964 (by decide +kernel) ⟨Nat.le_of_ble_eq_true rfl, Nat.le_of_ble_eq_true rfl⟩) rfl rfl (Nat.le_of_ble_eq_true rfl) dL_law_1160) (fun v1 u1 hk => ?_)
  clear hv; have hv := hk; clear hk
  obtain ⟨hve, hI2⟩ := hv
  exact yl_icmp_eq (tgt := 1616) E dL_law_1163 (by decide) (fun _ => kk _ _ hI2) (fun h => absurd hve h)
set_option maxRecDepth 100000 in
set_option maxHeartbeats 4000000 in
theorem law_27 {p : Program} {l : Launch} {e : Env} {s : State} {m : MethodId} {args : Array Value} {below : List Frame} {meth : Method} {c : Code} {w w2 : wT} {A : Nat → Prop} {Q : State → Prop} {σ τ : Hp} {b L : Nat} {xs : Nat → Int32} {Inv : Hp → Hp → Prop} {x3 : Int32} (E : LE p m meth c s args w w2 A b L xs) (hs : LSteps Inv) (hI : Inv σ τ) (hin : ∀ k : Int32, 1 ≤ k → k ≤ 6 → vp_in (x3 + k) L) (kk : ∀ u u', Inv u u' → YL p l e s m args below meth c w w2 A Q u u' 1616 [(3, .int x3), (2, .ref (w2.1 0)), (1, .ref (w.1 0)), (0, .ref b)] []) : YL p l e s m args below meth c w w2 A Q σ τ 1168 [(3, .int x3), (2, .ref (w2.1 0)), (1, .ref (w.1 0)), (0, .ref b)] [] := by
  have hv := ls_27 hs σ τ hI (xs (x3 + 1).toNatClampNeg)
  refine yl_aload_n E dL_law_1168 2 rfl ?_
  refine yl_aload_n E dL_law_1169 3 rfl ?_
  refine yl_iload_n E dL_law_1170 0 rfl ?_
  refine yl_iconst (v := 1) E dL_law_1171 (by decide) ?_
  refine yl_iadd E dL_law_1172 ?_
  refine yl_sld E (hin 1 (by decide) (by decide)) dL_law_1173 ?_
  refine yl_callXl E (yl_runX (rest := []) E (kX11_times l w E.2.2.2.1.1 σ (xs (x3 + 1).toNatClampNeg) _ hv) (y_cwV 1 E.1.2.2.2.2 wm_965 wm_966 wm_967 wm_116 wm_968 (by decide +kernel) ⟨Nat.le_of_ble_eq_true rfl, Nat.le_of_ble_eq_true rfl⟩) rfl rfl (Nat.le_of_ble_eq_true rfl) dL_law_1174) (fun v0 u0 hk => ?_)
  clear hv; have hv := hk; clear hk
  refine yl_aload_n E dL_law_1177 1 rfl ?_
  refine yl_aload_n E dL_law_1178 3 rfl ?_
  refine yl_iload_n E dL_law_1179 0 rfl ?_
  refine yl_iconst (v := 1) E dL_law_1180 (by decide) ?_
  refine yl_iadd E dL_law_1181 ?_
  refine yl_sld E (hin 1 (by decide) (by decide)) dL_law_1182 ?_
  refine yl_callMl E (yl_runM (rest := [.long v0]) E (kX12_times l w2 E.2.2.2.1.2.1 τ (xs (x3 + 1).toNatClampNeg) _ hv) (y_cwV 1 E.1.2.2.2.2 wm_969 wm_970 wm_971 wm_479 wm_972 (by decide +kernel) ⟨Nat.le_of_ble_eq_true rfl, Nat.le_of_ble_eq_true rfl⟩) rfl rfl (Nat.le_of_ble_eq_true rfl) dL_law_1183) (fun v1 u1 hk => ?_)
  clear hv; have hv := hk; clear hk
  obtain ⟨hve, hI2⟩ := hv
  refine yl_lcmp E dL_law_1186 ?_
  exact yl_if_eq (tgt := 1616) E dL_law_1187 (by decide) (fun _ => kk _ _ hI2) (fun h => absurd (by rw [hve]; exact lg_cmp_self) h)
set_option maxRecDepth 100000 in
set_option maxHeartbeats 4000000 in
theorem law_28 {p : Program} {l : Launch} {e : Env} {s : State} {m : MethodId} {args : Array Value} {below : List Frame} {meth : Method} {c : Code} {w w2 : wT} {A : Nat → Prop} {Q : State → Prop} {σ τ : Hp} {b L : Nat} {xs : Nat → Int32} {Inv : Hp → Hp → Prop} {x3 : Int32} (E : LE p m meth c s args w w2 A b L xs) (hs : LSteps Inv) (hI : Inv σ τ) (hin : ∀ k : Int32, 1 ≤ k → k ≤ 6 → vp_in (x3 + k) L) (kk : ∀ u u', Inv u u' → YL p l e s m args below meth c w w2 A Q u u' 1616 [(3, .int x3), (2, .ref (w2.1 0)), (1, .ref (w.1 0)), (0, .ref b)] []) : YL p l e s m args below meth c w w2 A Q σ τ 1192 [(3, .int x3), (2, .ref (w2.1 0)), (1, .ref (w.1 0)), (0, .ref b)] [] := by
  have hv := ls_28 hs σ τ hI (xs (x3 + 1).toNatClampNeg) (xs (x3 + 2).toNatClampNeg)
  refine yl_aload_n E dL_law_1192 2 rfl ?_
  refine yl_aload_n E dL_law_1193 3 rfl ?_
  refine yl_iload_n E dL_law_1194 0 rfl ?_
  refine yl_iconst (v := 1) E dL_law_1195 (by decide) ?_
  refine yl_iadd E dL_law_1196 ?_
  refine yl_sld E (hin 1 (by decide) (by decide)) dL_law_1197 ?_
  refine yl_aload_n E dL_law_1198 3 rfl ?_
  refine yl_iload_n E dL_law_1199 0 rfl ?_
  refine yl_iconst (v := 2) E dL_law_1200 (by decide) ?_
  refine yl_iadd E dL_law_1201 ?_
  refine yl_sld E (hin 2 (by decide) (by decide)) dL_law_1202 ?_
  refine yl_callXi E (yl_runX (rest := []) E (kX11_laws l w E.2.2.2.1.1 σ (xs (x3 + 1).toNatClampNeg) (xs (x3 + 2).toNatClampNeg) _ hv) (y_cwV 2 E.1.2.2.2.2 wm_973 wm_974 wm_975 wm_116 wm_976 (by decide +kernel) ⟨Nat.le_of_ble_eq_true rfl, Nat.le_of_ble_eq_true rfl⟩) rfl rfl (Nat.le_of_ble_eq_true rfl) dL_law_1203) (fun v0 u0 hk => ?_)
  clear hv; have hv := hk; clear hk
  refine yl_aload_n E dL_law_1206 1 rfl ?_
  refine yl_aload_n E dL_law_1207 3 rfl ?_
  refine yl_iload_n E dL_law_1208 0 rfl ?_
  refine yl_iconst (v := 1) E dL_law_1209 (by decide) ?_
  refine yl_iadd E dL_law_1210 ?_
  refine yl_sld E (hin 1 (by decide) (by decide)) dL_law_1211 ?_
  refine yl_aload_n E dL_law_1212 3 rfl ?_
  refine yl_iload_n E dL_law_1213 0 rfl ?_
  refine yl_iconst (v := 2) E dL_law_1214 (by decide) ?_
  refine yl_iadd E dL_law_1215 ?_
  refine yl_sld E (hin 2 (by decide) (by decide)) dL_law_1216 ?_
  refine yl_callMi E (yl_runM (rest := [.int v0]) E (kX12_laws l w2 E.2.2.2.1.2.1 τ (xs (x3 + 1).toNatClampNeg) (xs (x3 + 2).toNatClampNeg) _ hv) (y_cwV 2 E.1.2.2.2.2 wm_977 wm_978 wm_979 wm_479 wm_980 (by decide +kernel) ⟨Nat.le_of_ble_eq_true rfl, Nat.le_of_ble_eq_true rfl⟩) rfl rfl (Nat.le_of_ble_eq_true rfl) dL_law_1217) (fun v1 u1 hk => ?_)
  clear hv; have hv := hk; clear hk
  obtain ⟨hve, hI2⟩ := hv
  exact yl_icmp_eq (tgt := 1616) E dL_law_1220 (by decide) (fun _ => kk _ _ hI2) (fun h => absurd hve h)
set_option maxRecDepth 100000 in
set_option maxHeartbeats 4000000 in
theorem law_29 {p : Program} {l : Launch} {e : Env} {s : State} {m : MethodId} {args : Array Value} {below : List Frame} {meth : Method} {c : Code} {w w2 : wT} {A : Nat → Prop} {Q : State → Prop} {σ τ : Hp} {b L : Nat} {xs : Nat → Int32} {Inv : Hp → Hp → Prop} {x3 : Int32} (E : LE p m meth c s args w w2 A b L xs) (hs : LSteps Inv) (hI : Inv σ τ) (hin : ∀ k : Int32, 1 ≤ k → k ≤ 6 → vp_in (x3 + k) L) (kk : ∀ u u', Inv u u' → YL p l e s m args below meth c w w2 A Q u u' 1616 [(3, .int x3), (2, .ref (w2.1 0)), (1, .ref (w.1 0)), (0, .ref b)] []) : YL p l e s m args below meth c w w2 A Q σ τ 1225 [(3, .int x3), (2, .ref (w2.1 0)), (1, .ref (w.1 0)), (0, .ref b)] [] := by
  have hv := ls_29 hs σ τ hI (xs (x3 + 1).toNatClampNeg) (xs (x3 + 2).toNatClampNeg)
  refine yl_aload_n E dL_law_1225 2 rfl ?_
  refine yl_aload_n E dL_law_1226 3 rfl ?_
  refine yl_iload_n E dL_law_1227 0 rfl ?_
  refine yl_iconst (v := 1) E dL_law_1228 (by decide) ?_
  refine yl_iadd E dL_law_1229 ?_
  refine yl_sld E (hin 1 (by decide) (by decide)) dL_law_1230 ?_
  refine yl_aload_n E dL_law_1231 3 rfl ?_
  refine yl_iload_n E dL_law_1232 0 rfl ?_
  refine yl_iconst (v := 2) E dL_law_1233 (by decide) ?_
  refine yl_iadd E dL_law_1234 ?_
  refine yl_sld E (hin 2 (by decide) (by decide)) dL_law_1235 ?_
  refine yl_callXi E (yl_runX (rest := []) E (kX11_film l w E.2.2.2.1.1 σ (xs (x3 + 1).toNatClampNeg) (xs (x3 + 2).toNatClampNeg) _ hv) (y_cwV 2 E.1.2.2.2.2 wm_981 wm_982 wm_983 wm_116 wm_984 (by decide +kernel) ⟨Nat.le_of_ble_eq_true rfl, Nat.le_of_ble_eq_true rfl⟩) rfl rfl (Nat.le_of_ble_eq_true rfl) dL_law_1236) (fun v0 u0 hk => ?_)
  clear hv; have hv := hk; clear hk
  refine yl_aload_n E dL_law_1239 1 rfl ?_
  refine yl_aload_n E dL_law_1240 3 rfl ?_
  refine yl_iload_n E dL_law_1241 0 rfl ?_
  refine yl_iconst (v := 1) E dL_law_1242 (by decide) ?_
  refine yl_iadd E dL_law_1243 ?_
  refine yl_sld E (hin 1 (by decide) (by decide)) dL_law_1244 ?_
  refine yl_aload_n E dL_law_1245 3 rfl ?_
  refine yl_iload_n E dL_law_1246 0 rfl ?_
  refine yl_iconst (v := 2) E dL_law_1247 (by decide) ?_
  refine yl_iadd E dL_law_1248 ?_
  refine yl_sld E (hin 2 (by decide) (by decide)) dL_law_1249 ?_
  refine yl_callMi E (yl_runM (rest := [.int v0]) E (kX12_film l w2 E.2.2.2.1.2.1 τ (xs (x3 + 1).toNatClampNeg) (xs (x3 + 2).toNatClampNeg) _ hv) (y_cwV 2 E.1.2.2.2.2 wm_985 wm_986 wm_987 wm_479 wm_988 (by decide +kernel) ⟨Nat.le_of_ble_eq_true rfl, Nat.le_of_ble_eq_true rfl⟩) rfl rfl (Nat.le_of_ble_eq_true rfl) dL_law_1250) (fun v1 u1 hk => ?_)
  clear hv; have hv := hk; clear hk
  obtain ⟨hve, hI2⟩ := hv
  exact yl_icmp_eq (tgt := 1616) E dL_law_1253 (by decide) (fun _ => kk _ _ hI2) (fun h => absurd hve h)
set_option maxRecDepth 100000 in
set_option maxHeartbeats 4000000 in
theorem law_30 {p : Program} {l : Launch} {e : Env} {s : State} {m : MethodId} {args : Array Value} {below : List Frame} {meth : Method} {c : Code} {w w2 : wT} {A : Nat → Prop} {Q : State → Prop} {σ τ : Hp} {b L : Nat} {xs : Nat → Int32} {Inv : Hp → Hp → Prop} {x3 : Int32} (E : LE p m meth c s args w w2 A b L xs) (hs : LSteps Inv) (hI : Inv σ τ) (hin : ∀ k : Int32, 1 ≤ k → k ≤ 6 → vp_in (x3 + k) L) (kk : ∀ u u', Inv u u' → YL p l e s m args below meth c w w2 A Q u u' 1616 [(3, .int x3), (2, .ref (w2.1 0)), (1, .ref (w.1 0)), (0, .ref b)] []) : YL p l e s m args below meth c w w2 A Q σ τ 1258 [(3, .int x3), (2, .ref (w2.1 0)), (1, .ref (w.1 0)), (0, .ref b)] [] := by
  have hv := ls_30 hs σ τ hI (xs (x3 + 1).toNatClampNeg) (xs (x3 + 2).toNatClampNeg) (xs (x3 + 3).toNatClampNeg)
  refine yl_aload_n E dL_law_1258 2 rfl ?_
  refine yl_aload_n E dL_law_1259 3 rfl ?_
  refine yl_iload_n E dL_law_1260 0 rfl ?_
  refine yl_iconst (v := 1) E dL_law_1261 (by decide) ?_
  refine yl_iadd E dL_law_1262 ?_
  refine yl_sld E (hin 1 (by decide) (by decide)) dL_law_1263 ?_
  refine yl_aload_n E dL_law_1264 3 rfl ?_
  refine yl_iload_n E dL_law_1265 0 rfl ?_
  refine yl_iconst (v := 2) E dL_law_1266 (by decide) ?_
  refine yl_iadd E dL_law_1267 ?_
  refine yl_sld E (hin 2 (by decide) (by decide)) dL_law_1268 ?_
  refine yl_aload_n E dL_law_1269 3 rfl ?_
  refine yl_iload_n E dL_law_1270 0 rfl ?_
  refine yl_iconst (v := 3) E dL_law_1271 (by decide) ?_
  refine yl_iadd E dL_law_1272 ?_
  refine yl_sld E (hin 3 (by decide) (by decide)) dL_law_1273 ?_
  refine yl_callXi E (yl_runX (rest := []) E (kX11_drawn l w E.2.2.2.1.1 σ (xs (x3 + 1).toNatClampNeg) (xs (x3 + 2).toNatClampNeg) (xs (x3 + 3).toNatClampNeg) _ hv) (y_cwV 3 E.1.2.2.2.2 wm_989 wm_990 wm_991 wm_116 wm_992 (by decide +kernel) ⟨Nat.le_of_ble_eq_true rfl, Nat.le_of_ble_eq_true rfl⟩) rfl rfl (Nat.le_of_ble_eq_true rfl) dL_law_1274) (fun v0 u0 hk => ?_)
  clear hv; have hv := hk; clear hk
  refine yl_aload_n E dL_law_1277 1 rfl ?_
  refine yl_aload_n E dL_law_1278 3 rfl ?_
  refine yl_iload_n E dL_law_1279 0 rfl ?_
  refine yl_iconst (v := 1) E dL_law_1280 (by decide) ?_
  refine yl_iadd E dL_law_1281 ?_
  refine yl_sld E (hin 1 (by decide) (by decide)) dL_law_1282 ?_
  refine yl_aload_n E dL_law_1283 3 rfl ?_
  refine yl_iload_n E dL_law_1284 0 rfl ?_
  refine yl_iconst (v := 2) E dL_law_1285 (by decide) ?_
  refine yl_iadd E dL_law_1286 ?_
  refine yl_sld E (hin 2 (by decide) (by decide)) dL_law_1287 ?_
  refine yl_aload_n E dL_law_1288 3 rfl ?_
  refine yl_iload_n E dL_law_1289 0 rfl ?_
  refine yl_iconst (v := 3) E dL_law_1290 (by decide) ?_
  refine yl_iadd E dL_law_1291 ?_
  refine yl_sld E (hin 3 (by decide) (by decide)) dL_law_1292 ?_
  refine yl_callMi E (yl_runM (rest := [.int v0]) E (kX12_drawn l w2 E.2.2.2.1.2.1 τ (xs (x3 + 1).toNatClampNeg) (xs (x3 + 2).toNatClampNeg) (xs (x3 + 3).toNatClampNeg) _ hv) (y_cwV 3 E.1.2.2.2.2 wm_993 wm_994 wm_995 wm_479 wm_996 (by decide +kernel) ⟨Nat.le_of_ble_eq_true rfl, Nat.le_of_ble_eq_true rfl⟩) rfl rfl (Nat.le_of_ble_eq_true rfl) dL_law_1293) (fun v1 u1 hk => ?_)
  clear hv; have hv := hk; clear hk
  obtain ⟨hve, hI2⟩ := hv
  exact yl_icmp_eq (tgt := 1616) E dL_law_1296 (by decide) (fun _ => kk _ _ hI2) (fun h => absurd hve h)
set_option maxRecDepth 100000 in
set_option maxHeartbeats 4000000 in
theorem law_31 {p : Program} {l : Launch} {e : Env} {s : State} {m : MethodId} {args : Array Value} {below : List Frame} {meth : Method} {c : Code} {w w2 : wT} {A : Nat → Prop} {Q : State → Prop} {σ τ : Hp} {b L : Nat} {xs : Nat → Int32} {Inv : Hp → Hp → Prop} {x3 : Int32} (E : LE p m meth c s args w w2 A b L xs) (hs : LSteps Inv) (hI : Inv σ τ) (hin : ∀ k : Int32, 1 ≤ k → k ≤ 6 → vp_in (x3 + k) L) (kk : ∀ u u', Inv u u' → YL p l e s m args below meth c w w2 A Q u u' 1616 [(3, .int x3), (2, .ref (w2.1 0)), (1, .ref (w.1 0)), (0, .ref b)] []) : YL p l e s m args below meth c w w2 A Q σ τ 1301 [(3, .int x3), (2, .ref (w2.1 0)), (1, .ref (w.1 0)), (0, .ref b)] [] := by
  have hv := ls_31 hs σ τ hI (xs (x3 + 1).toNatClampNeg) (xs (x3 + 2).toNatClampNeg) (xs (x3 + 3).toNatClampNeg) (xs (x3 + 4).toNatClampNeg)
  refine yl_aload_n E dL_law_1301 2 rfl ?_
  refine yl_aload_n E dL_law_1302 3 rfl ?_
  refine yl_iload_n E dL_law_1303 0 rfl ?_
  refine yl_iconst (v := 1) E dL_law_1304 (by decide) ?_
  refine yl_iadd E dL_law_1305 ?_
  refine yl_sld E (hin 1 (by decide) (by decide)) dL_law_1306 ?_
  refine yl_aload_n E dL_law_1307 3 rfl ?_
  refine yl_iload_n E dL_law_1308 0 rfl ?_
  refine yl_iconst (v := 2) E dL_law_1309 (by decide) ?_
  refine yl_iadd E dL_law_1310 ?_
  refine yl_sld E (hin 2 (by decide) (by decide)) dL_law_1311 ?_
  refine yl_aload_n E dL_law_1312 3 rfl ?_
  refine yl_iload_n E dL_law_1313 0 rfl ?_
  refine yl_iconst (v := 3) E dL_law_1314 (by decide) ?_
  refine yl_iadd E dL_law_1315 ?_
  refine yl_sld E (hin 3 (by decide) (by decide)) dL_law_1316 ?_
  refine yl_aload_n E dL_law_1317 3 rfl ?_
  refine yl_iload_n E dL_law_1318 0 rfl ?_
  refine yl_iconst (v := 4) E dL_law_1319 (by decide) ?_
  refine yl_iadd E dL_law_1320 ?_
  refine yl_sld E (hin 4 (by decide) (by decide)) dL_law_1321 ?_
  refine yl_callXl E (yl_runX (rest := []) E (kX11_mean l w E.2.2.2.1.1 σ (xs (x3 + 1).toNatClampNeg) (xs (x3 + 2).toNatClampNeg) (xs (x3 + 3).toNatClampNeg) (xs (x3 + 4).toNatClampNeg) _ hv) (y_cwV 4 E.1.2.2.2.2 wm_997 wm_998 wm_999 wm_116 wm_1000 (by decide +kernel) ⟨Nat.le_of_ble_eq_true rfl, Nat.le_of_ble_eq_true rfl⟩) rfl rfl (Nat.le_of_ble_eq_true rfl) dL_law_1322) (fun v0 u0 hk => ?_)
  clear hv; have hv := hk; clear hk
  refine yl_aload_n E dL_law_1325 1 rfl ?_
  refine yl_aload_n E dL_law_1326 3 rfl ?_
  refine yl_iload_n E dL_law_1327 0 rfl ?_
  refine yl_iconst (v := 1) E dL_law_1328 (by decide) ?_
  refine yl_iadd E dL_law_1329 ?_
  refine yl_sld E (hin 1 (by decide) (by decide)) dL_law_1330 ?_
  refine yl_aload_n E dL_law_1331 3 rfl ?_
  refine yl_iload_n E dL_law_1332 0 rfl ?_
  refine yl_iconst (v := 2) E dL_law_1333 (by decide) ?_
  refine yl_iadd E dL_law_1334 ?_
  refine yl_sld E (hin 2 (by decide) (by decide)) dL_law_1335 ?_
  refine yl_aload_n E dL_law_1336 3 rfl ?_
  refine yl_iload_n E dL_law_1337 0 rfl ?_
  refine yl_iconst (v := 3) E dL_law_1338 (by decide) ?_
  refine yl_iadd E dL_law_1339 ?_
  refine yl_sld E (hin 3 (by decide) (by decide)) dL_law_1340 ?_
  refine yl_aload_n E dL_law_1341 3 rfl ?_
  refine yl_iload_n E dL_law_1342 0 rfl ?_
  refine yl_iconst (v := 4) E dL_law_1343 (by decide) ?_
  refine yl_iadd E dL_law_1344 ?_
  refine yl_sld E (hin 4 (by decide) (by decide)) dL_law_1345 ?_
  refine yl_callMl E (yl_runM (rest := [.long v0]) E (kX12_mean l w2 E.2.2.2.1.2.1 τ (xs (x3 + 1).toNatClampNeg) (xs (x3 + 2).toNatClampNeg) (xs (x3 + 3).toNatClampNeg) (xs (x3 + 4).toNatClampNeg) _ hv) (y_cwV 4 E.1.2.2.2.2 wm_1001 wm_1002 wm_1003 wm_479 wm_1004 (by decide +kernel) ⟨Nat.le_of_ble_eq_true rfl, Nat.le_of_ble_eq_true rfl⟩) rfl rfl (Nat.le_of_ble_eq_true rfl) dL_law_1346) (fun v1 u1 hk => ?_)
  clear hv; have hv := hk; clear hk
  obtain ⟨hve, hI2⟩ := hv
  refine yl_lcmp E dL_law_1349 ?_
  exact yl_if_eq (tgt := 1616) E dL_law_1350 (by decide) (fun _ => kk _ _ hI2) (fun h => absurd (by rw [hve]; exact lg_cmp_self) h)
set_option maxRecDepth 100000 in
set_option maxHeartbeats 4000000 in
theorem law_32 {p : Program} {l : Launch} {e : Env} {s : State} {m : MethodId} {args : Array Value} {below : List Frame} {meth : Method} {c : Code} {w w2 : wT} {A : Nat → Prop} {Q : State → Prop} {σ τ : Hp} {b L : Nat} {xs : Nat → Int32} {Inv : Hp → Hp → Prop} {x3 : Int32} (E : LE p m meth c s args w w2 A b L xs) (hs : LSteps Inv) (hI : Inv σ τ) (hin : ∀ k : Int32, 1 ≤ k → k ≤ 6 → vp_in (x3 + k) L) (kk : ∀ u u', Inv u u' → YL p l e s m args below meth c w w2 A Q u u' 1616 [(3, .int x3), (2, .ref (w2.1 0)), (1, .ref (w.1 0)), (0, .ref b)] []) : YL p l e s m args below meth c w w2 A Q σ τ 1355 [(3, .int x3), (2, .ref (w2.1 0)), (1, .ref (w.1 0)), (0, .ref b)] [] := by
  have hv := ls_32 hs σ τ hI ()
  refine yl_aload_n E dL_law_1355 2 rfl ?_
  refine yl_callXi E (yl_runX (rest := []) E (kX11_image l w E.2.2.2.1.1 σ  _ hv) (y_cwV 0 E.1.2.2.2.2 wm_1005 wm_1006 wm_1007 wm_116 wm_1008 (by decide +kernel) ⟨Nat.le_of_ble_eq_true rfl, Nat.le_of_ble_eq_true rfl⟩) rfl rfl (Nat.le_of_ble_eq_true rfl) dL_law_1356) (fun v0 u0 hk => ?_)
  clear hv; have hv := hk; clear hk
  refine yl_aload_n E dL_law_1359 1 rfl ?_
  refine yl_callMi E (yl_runM (rest := [.int v0]) E (kX12_image l w2 E.2.2.2.1.2.1 τ  _ hv) (y_cwV 0 E.1.2.2.2.2 wm_1009 wm_1010 wm_1011 wm_479 wm_1012 (by decide +kernel) ⟨Nat.le_of_ble_eq_true rfl, Nat.le_of_ble_eq_true rfl⟩) rfl rfl (Nat.le_of_ble_eq_true rfl) dL_law_1360) (fun v1 u1 hk => ?_)
  clear hv; have hv := hk; clear hk
  obtain ⟨hve, hI2⟩ := hv
  exact yl_icmp_eq (tgt := 1616) E dL_law_1363 (by decide) (fun _ => kk _ _ hI2) (fun h => absurd hve h)
set_option maxRecDepth 100000 in
set_option maxHeartbeats 4000000 in
theorem law_33 {p : Program} {l : Launch} {e : Env} {s : State} {m : MethodId} {args : Array Value} {below : List Frame} {meth : Method} {c : Code} {w w2 : wT} {A : Nat → Prop} {Q : State → Prop} {σ τ : Hp} {b L : Nat} {xs : Nat → Int32} {Inv : Hp → Hp → Prop} {x3 : Int32} (E : LE p m meth c s args w w2 A b L xs) (hs : LSteps Inv) (hI : Inv σ τ) (hin : ∀ k : Int32, 1 ≤ k → k ≤ 6 → vp_in (x3 + k) L) (kk : ∀ u u', Inv u u' → YL p l e s m args below meth c w w2 A Q u u' 1616 [(3, .int x3), (2, .ref (w2.1 0)), (1, .ref (w.1 0)), (0, .ref b)] []) : YL p l e s m args below meth c w w2 A Q σ τ 1368 [(3, .int x3), (2, .ref (w2.1 0)), (1, .ref (w.1 0)), (0, .ref b)] [] := by
  have hv := ls_33 hs σ τ hI ()
  refine yl_aload_n E dL_law_1368 2 rfl ?_
  refine yl_callXi E (yl_runX (rest := []) E (kX11_back l w E.2.2.2.1.1 σ  _ hv) (y_cwV 0 E.1.2.2.2.2 wm_1013 wm_1014 wm_1015 wm_116 wm_1016 (by decide +kernel) ⟨Nat.le_of_ble_eq_true rfl, Nat.le_of_ble_eq_true rfl⟩) rfl rfl (Nat.le_of_ble_eq_true rfl) dL_law_1369) (fun v0 u0 hk => ?_)
  clear hv; have hv := hk; clear hk
  refine yl_aload_n E dL_law_1372 1 rfl ?_
  refine yl_callMi E (yl_runM (rest := [.int v0]) E (kX12_back l w2 E.2.2.2.1.2.1 τ  _ hv) (y_cwV 0 E.1.2.2.2.2 wm_1017 wm_1018 wm_1019 wm_479 wm_1020 (by decide +kernel) ⟨Nat.le_of_ble_eq_true rfl, Nat.le_of_ble_eq_true rfl⟩) rfl rfl (Nat.le_of_ble_eq_true rfl) dL_law_1373) (fun v1 u1 hk => ?_)
  clear hv; have hv := hk; clear hk
  obtain ⟨hve, hI2⟩ := hv
  exact yl_icmp_eq (tgt := 1616) E dL_law_1376 (by decide) (fun _ => kk _ _ hI2) (fun h => absurd hve h)
set_option maxRecDepth 100000 in
set_option maxHeartbeats 4000000 in
theorem law_34 {p : Program} {l : Launch} {e : Env} {s : State} {m : MethodId} {args : Array Value} {below : List Frame} {meth : Method} {c : Code} {w w2 : wT} {A : Nat → Prop} {Q : State → Prop} {σ τ : Hp} {b L : Nat} {xs : Nat → Int32} {Inv : Hp → Hp → Prop} {x3 : Int32} (E : LE p m meth c s args w w2 A b L xs) (hs : LSteps Inv) (hI : Inv σ τ) (hin : ∀ k : Int32, 1 ≤ k → k ≤ 6 → vp_in (x3 + k) L) (kk : ∀ u u', Inv u u' → YL p l e s m args below meth c w w2 A Q u u' 1616 [(3, .int x3), (2, .ref (w2.1 0)), (1, .ref (w.1 0)), (0, .ref b)] []) : YL p l e s m args below meth c w w2 A Q σ τ 1381 [(3, .int x3), (2, .ref (w2.1 0)), (1, .ref (w.1 0)), (0, .ref b)] [] := by
  have hv := ls_34 hs σ τ hI (xs (x3 + 1).toNatClampNeg) (xs (x3 + 2).toNatClampNeg) (xs (x3 + 3).toNatClampNeg)
  refine yl_aload_n E dL_law_1381 2 rfl ?_
  refine yl_aload_n E dL_law_1382 3 rfl ?_
  refine yl_iload_n E dL_law_1383 0 rfl ?_
  refine yl_iconst (v := 1) E dL_law_1384 (by decide) ?_
  refine yl_iadd E dL_law_1385 ?_
  refine yl_sld E (hin 1 (by decide) (by decide)) dL_law_1386 ?_
  refine yl_aload_n E dL_law_1387 3 rfl ?_
  refine yl_iload_n E dL_law_1388 0 rfl ?_
  refine yl_iconst (v := 2) E dL_law_1389 (by decide) ?_
  refine yl_iadd E dL_law_1390 ?_
  refine yl_sld E (hin 2 (by decide) (by decide)) dL_law_1391 ?_
  refine yl_aload_n E dL_law_1392 3 rfl ?_
  refine yl_iload_n E dL_law_1393 0 rfl ?_
  refine yl_iconst (v := 3) E dL_law_1394 (by decide) ?_
  refine yl_iadd E dL_law_1395 ?_
  refine yl_sld E (hin 3 (by decide) (by decide)) dL_law_1396 ?_
  refine yl_callXi E (yl_runX (rest := []) E (kX11_sheet l w E.2.2.2.1.1 σ (xs (x3 + 1).toNatClampNeg) (xs (x3 + 2).toNatClampNeg) (xs (x3 + 3).toNatClampNeg) _ hv) (y_cwV 3 E.1.2.2.2.2 wm_1021 wm_1022 wm_1023 wm_116 wm_1024 (by decide +kernel) ⟨Nat.le_of_ble_eq_true rfl, Nat.le_of_ble_eq_true rfl⟩) rfl rfl (Nat.le_of_ble_eq_true rfl) dL_law_1397) (fun v0 u0 hk => ?_)
  clear hv; have hv := hk; clear hk
  refine yl_aload_n E dL_law_1400 1 rfl ?_
  refine yl_aload_n E dL_law_1401 3 rfl ?_
  refine yl_iload_n E dL_law_1402 0 rfl ?_
  refine yl_iconst (v := 1) E dL_law_1403 (by decide) ?_
  refine yl_iadd E dL_law_1404 ?_
  refine yl_sld E (hin 1 (by decide) (by decide)) dL_law_1405 ?_
  refine yl_aload_n E dL_law_1406 3 rfl ?_
  refine yl_iload_n E dL_law_1407 0 rfl ?_
  refine yl_iconst (v := 2) E dL_law_1408 (by decide) ?_
  refine yl_iadd E dL_law_1409 ?_
  refine yl_sld E (hin 2 (by decide) (by decide)) dL_law_1410 ?_
  refine yl_aload_n E dL_law_1411 3 rfl ?_
  refine yl_iload_n E dL_law_1412 0 rfl ?_
  refine yl_iconst (v := 3) E dL_law_1413 (by decide) ?_
  refine yl_iadd E dL_law_1414 ?_
  refine yl_sld E (hin 3 (by decide) (by decide)) dL_law_1415 ?_
  refine yl_callMi E (yl_runM (rest := [.int v0]) E (kX12_sheet l w2 E.2.2.2.1.2.1 τ (xs (x3 + 1).toNatClampNeg) (xs (x3 + 2).toNatClampNeg) (xs (x3 + 3).toNatClampNeg) _ hv) (y_cwV 3 E.1.2.2.2.2 wm_1025 wm_1026 wm_1027 wm_479 wm_1028 (by decide +kernel) ⟨Nat.le_of_ble_eq_true rfl, Nat.le_of_ble_eq_true rfl⟩) rfl rfl (Nat.le_of_ble_eq_true rfl) dL_law_1416) (fun v1 u1 hk => ?_)
  clear hv; have hv := hk; clear hk
  obtain ⟨hve, hI2⟩ := hv
  exact yl_icmp_eq (tgt := 1616) E dL_law_1419 (by decide) (fun _ => kk _ _ hI2) (fun h => absurd hve h)
set_option maxRecDepth 100000 in
set_option maxHeartbeats 4000000 in
theorem law_35 {p : Program} {l : Launch} {e : Env} {s : State} {m : MethodId} {args : Array Value} {below : List Frame} {meth : Method} {c : Code} {w w2 : wT} {A : Nat → Prop} {Q : State → Prop} {σ τ : Hp} {b L : Nat} {xs : Nat → Int32} {Inv : Hp → Hp → Prop} {x3 : Int32} (E : LE p m meth c s args w w2 A b L xs) (hs : LSteps Inv) (hI : Inv σ τ) (hin : ∀ k : Int32, 1 ≤ k → k ≤ 6 → vp_in (x3 + k) L) (kk : ∀ u u', Inv u u' → YL p l e s m args below meth c w w2 A Q u u' 1616 [(3, .int x3), (2, .ref (w2.1 0)), (1, .ref (w.1 0)), (0, .ref b)] []) : YL p l e s m args below meth c w w2 A Q σ τ 1424 [(3, .int x3), (2, .ref (w2.1 0)), (1, .ref (w.1 0)), (0, .ref b)] [] := by
  have hv := ls_35 hs σ τ hI (xs (x3 + 1).toNatClampNeg) (xs (x3 + 2).toNatClampNeg) (xs (x3 + 3).toNatClampNeg)
  refine yl_aload_n E dL_law_1424 2 rfl ?_
  refine yl_aload_n E dL_law_1425 3 rfl ?_
  refine yl_iload_n E dL_law_1426 0 rfl ?_
  refine yl_iconst (v := 1) E dL_law_1427 (by decide) ?_
  refine yl_iadd E dL_law_1428 ?_
  refine yl_sld E (hin 1 (by decide) (by decide)) dL_law_1429 ?_
  refine yl_aload_n E dL_law_1430 3 rfl ?_
  refine yl_iload_n E dL_law_1431 0 rfl ?_
  refine yl_iconst (v := 2) E dL_law_1432 (by decide) ?_
  refine yl_iadd E dL_law_1433 ?_
  refine yl_sld E (hin 2 (by decide) (by decide)) dL_law_1434 ?_
  refine yl_aload_n E dL_law_1435 3 rfl ?_
  refine yl_iload_n E dL_law_1436 0 rfl ?_
  refine yl_iconst (v := 3) E dL_law_1437 (by decide) ?_
  refine yl_iadd E dL_law_1438 ?_
  refine yl_sld E (hin 3 (by decide) (by decide)) dL_law_1439 ?_
  refine yl_callXi E (yl_runX (rest := []) E (kX11_cell l w E.2.2.2.1.1 σ (xs (x3 + 1).toNatClampNeg) (xs (x3 + 2).toNatClampNeg) (xs (x3 + 3).toNatClampNeg) _ hv) (y_cwV 3 E.1.2.2.2.2 wm_1029 wm_1030 wm_1031 wm_116 wm_1032 (by decide +kernel) ⟨Nat.le_of_ble_eq_true rfl, Nat.le_of_ble_eq_true rfl⟩) rfl rfl (Nat.le_of_ble_eq_true rfl) dL_law_1440) (fun v0 u0 hk => ?_)
  clear hv; have hv := hk; clear hk
  refine yl_aload_n E dL_law_1443 1 rfl ?_
  refine yl_aload_n E dL_law_1444 3 rfl ?_
  refine yl_iload_n E dL_law_1445 0 rfl ?_
  refine yl_iconst (v := 1) E dL_law_1446 (by decide) ?_
  refine yl_iadd E dL_law_1447 ?_
  refine yl_sld E (hin 1 (by decide) (by decide)) dL_law_1448 ?_
  refine yl_aload_n E dL_law_1449 3 rfl ?_
  refine yl_iload_n E dL_law_1450 0 rfl ?_
  refine yl_iconst (v := 2) E dL_law_1451 (by decide) ?_
  refine yl_iadd E dL_law_1452 ?_
  refine yl_sld E (hin 2 (by decide) (by decide)) dL_law_1453 ?_
  refine yl_aload_n E dL_law_1454 3 rfl ?_
  refine yl_iload_n E dL_law_1455 0 rfl ?_
  refine yl_iconst (v := 3) E dL_law_1456 (by decide) ?_
  refine yl_iadd E dL_law_1457 ?_
  refine yl_sld E (hin 3 (by decide) (by decide)) dL_law_1458 ?_
  refine yl_callMi E (yl_runM (rest := [.int v0]) E (kX12_cell l w2 E.2.2.2.1.2.1 τ (xs (x3 + 1).toNatClampNeg) (xs (x3 + 2).toNatClampNeg) (xs (x3 + 3).toNatClampNeg) _ hv) (y_cwV 3 E.1.2.2.2.2 wm_1033 wm_1034 wm_1035 wm_479 wm_1036 (by decide +kernel) ⟨Nat.le_of_ble_eq_true rfl, Nat.le_of_ble_eq_true rfl⟩) rfl rfl (Nat.le_of_ble_eq_true rfl) dL_law_1459) (fun v1 u1 hk => ?_)
  clear hv; have hv := hk; clear hk
  obtain ⟨hve, hI2⟩ := hv
  exact yl_icmp_eq (tgt := 1616) E dL_law_1462 (by decide) (fun _ => kk _ _ hI2) (fun h => absurd hve h)
set_option maxRecDepth 100000 in
set_option maxHeartbeats 4000000 in
theorem law_36 {p : Program} {l : Launch} {e : Env} {s : State} {m : MethodId} {args : Array Value} {below : List Frame} {meth : Method} {c : Code} {w w2 : wT} {A : Nat → Prop} {Q : State → Prop} {σ τ : Hp} {b L : Nat} {xs : Nat → Int32} {Inv : Hp → Hp → Prop} {x3 : Int32} (E : LE p m meth c s args w w2 A b L xs) (hs : LSteps Inv) (hI : Inv σ τ) (hin : ∀ k : Int32, 1 ≤ k → k ≤ 6 → vp_in (x3 + k) L) (kk : ∀ u u', Inv u u' → YL p l e s m args below meth c w w2 A Q u u' 1616 [(3, .int x3), (2, .ref (w2.1 0)), (1, .ref (w.1 0)), (0, .ref b)] []) : YL p l e s m args below meth c w w2 A Q σ τ 1467 [(3, .int x3), (2, .ref (w2.1 0)), (1, .ref (w.1 0)), (0, .ref b)] [] := by
  have hv := ls_36 hs σ τ hI (xs (x3 + 1).toNatClampNeg) (xs (x3 + 2).toNatClampNeg) (xs (x3 + 3).toNatClampNeg) (xs (x3 + 4).toNatClampNeg) (xs (x3 + 5).toNatClampNeg)
  refine yl_aload_n E dL_law_1467 2 rfl ?_
  refine yl_aload_n E dL_law_1468 3 rfl ?_
  refine yl_iload_n E dL_law_1469 0 rfl ?_
  refine yl_iconst (v := 1) E dL_law_1470 (by decide) ?_
  refine yl_iadd E dL_law_1471 ?_
  refine yl_sld E (hin 1 (by decide) (by decide)) dL_law_1472 ?_
  refine yl_aload_n E dL_law_1473 3 rfl ?_
  refine yl_iload_n E dL_law_1474 0 rfl ?_
  refine yl_iconst (v := 2) E dL_law_1475 (by decide) ?_
  refine yl_iadd E dL_law_1476 ?_
  refine yl_sld E (hin 2 (by decide) (by decide)) dL_law_1477 ?_
  refine yl_aload_n E dL_law_1478 3 rfl ?_
  refine yl_iload_n E dL_law_1479 0 rfl ?_
  refine yl_iconst (v := 3) E dL_law_1480 (by decide) ?_
  refine yl_iadd E dL_law_1481 ?_
  refine yl_sld E (hin 3 (by decide) (by decide)) dL_law_1482 ?_
  refine yl_aload_n E dL_law_1483 3 rfl ?_
  refine yl_iload_n E dL_law_1484 0 rfl ?_
  refine yl_iconst (v := 4) E dL_law_1485 (by decide) ?_
  refine yl_iadd E dL_law_1486 ?_
  refine yl_sld E (hin 4 (by decide) (by decide)) dL_law_1487 ?_
  refine yl_aload_n E dL_law_1488 3 rfl ?_
  refine yl_iload_n E dL_law_1489 0 rfl ?_
  refine yl_iconst (v := 5) E dL_law_1490 (by decide) ?_
  refine yl_iadd E dL_law_1491 ?_
  refine yl_sld E (hin 5 (by decide) (by decide)) dL_law_1492 ?_
  refine yl_callXi E (yl_runX (rest := []) E (kX11_copy l w E.2.2.2.1.1 σ (xs (x3 + 1).toNatClampNeg) (xs (x3 + 2).toNatClampNeg) (xs (x3 + 3).toNatClampNeg) (xs (x3 + 4).toNatClampNeg) (xs (x3 + 5).toNatClampNeg) _ hv) (y_cwV 5 E.1.2.2.2.2 wm_1037 wm_1038 wm_1039 wm_116 wm_1040 (by decide +kernel) ⟨Nat.le_of_ble_eq_true rfl, Nat.le_of_ble_eq_true rfl⟩) rfl rfl (Nat.le_of_ble_eq_true rfl) dL_law_1493) (fun v0 u0 hk => ?_)
  clear hv; have hv := hk; clear hk
  refine yl_aload_n E dL_law_1496 1 rfl ?_
  refine yl_aload_n E dL_law_1497 3 rfl ?_
  refine yl_iload_n E dL_law_1498 0 rfl ?_
  refine yl_iconst (v := 1) E dL_law_1499 (by decide) ?_
  refine yl_iadd E dL_law_1500 ?_
  refine yl_sld E (hin 1 (by decide) (by decide)) dL_law_1501 ?_
  refine yl_aload_n E dL_law_1502 3 rfl ?_
  refine yl_iload_n E dL_law_1503 0 rfl ?_
  refine yl_iconst (v := 2) E dL_law_1504 (by decide) ?_
  refine yl_iadd E dL_law_1505 ?_
  refine yl_sld E (hin 2 (by decide) (by decide)) dL_law_1506 ?_
  refine yl_aload_n E dL_law_1507 3 rfl ?_
  refine yl_iload_n E dL_law_1508 0 rfl ?_
  refine yl_iconst (v := 3) E dL_law_1509 (by decide) ?_
  refine yl_iadd E dL_law_1510 ?_
  refine yl_sld E (hin 3 (by decide) (by decide)) dL_law_1511 ?_
  refine yl_aload_n E dL_law_1512 3 rfl ?_
  refine yl_iload_n E dL_law_1513 0 rfl ?_
  refine yl_iconst (v := 4) E dL_law_1514 (by decide) ?_
  refine yl_iadd E dL_law_1515 ?_
  refine yl_sld E (hin 4 (by decide) (by decide)) dL_law_1516 ?_
  refine yl_aload_n E dL_law_1517 3 rfl ?_
  refine yl_iload_n E dL_law_1518 0 rfl ?_
  refine yl_iconst (v := 5) E dL_law_1519 (by decide) ?_
  refine yl_iadd E dL_law_1520 ?_
  refine yl_sld E (hin 5 (by decide) (by decide)) dL_law_1521 ?_
  refine yl_callMi E (yl_runM (rest := [.int v0]) E (kX12_copy l w2 E.2.2.2.1.2.1 τ (xs (x3 + 1).toNatClampNeg) (xs (x3 + 2).toNatClampNeg) (xs (x3 + 3).toNatClampNeg) (xs (x3 + 4).toNatClampNeg) (xs (x3 + 5).toNatClampNeg) _ hv) (y_cwV 5 E.1.2.2.2.2 wm_1041 wm_1042 wm_1043 wm_479 wm_1044 (by decide +kernel) ⟨Nat.le_of_ble_eq_true rfl, Nat.le_of_ble_eq_true rfl⟩) rfl rfl (Nat.le_of_ble_eq_true rfl) dL_law_1522) (fun v1 u1 hk => ?_)
  clear hv; have hv := hk; clear hk
  obtain ⟨hve, hI2⟩ := hv
  exact yl_icmp_eq (tgt := 1616) E dL_law_1525 (by decide) (fun _ => kk _ _ hI2) (fun h => absurd hve h)
set_option maxRecDepth 100000 in
set_option maxHeartbeats 4000000 in
theorem law_37 {p : Program} {l : Launch} {e : Env} {s : State} {m : MethodId} {args : Array Value} {below : List Frame} {meth : Method} {c : Code} {w w2 : wT} {A : Nat → Prop} {Q : State → Prop} {σ τ : Hp} {b L : Nat} {xs : Nat → Int32} {Inv : Hp → Hp → Prop} {x3 : Int32} (E : LE p m meth c s args w w2 A b L xs) (hs : LSteps Inv) (hI : Inv σ τ) (hin : ∀ k : Int32, 1 ≤ k → k ≤ 6 → vp_in (x3 + k) L) (kk : ∀ u u', Inv u u' → YL p l e s m args below meth c w w2 A Q u u' 1616 [(3, .int x3), (2, .ref (w2.1 0)), (1, .ref (w.1 0)), (0, .ref b)] []) : YL p l e s m args below meth c w w2 A Q σ τ 1530 [(3, .int x3), (2, .ref (w2.1 0)), (1, .ref (w.1 0)), (0, .ref b)] [] := by
  have hv := ls_37 hs σ τ hI (xs (x3 + 1).toNatClampNeg) (xs (x3 + 2).toNatClampNeg) (xs (x3 + 3).toNatClampNeg) (xs (x3 + 4).toNatClampNeg)
  refine yl_aload_n E dL_law_1530 2 rfl ?_
  refine yl_aload_n E dL_law_1531 3 rfl ?_
  refine yl_iload_n E dL_law_1532 0 rfl ?_
  refine yl_iconst (v := 1) E dL_law_1533 (by decide) ?_
  refine yl_iadd E dL_law_1534 ?_
  refine yl_sld E (hin 1 (by decide) (by decide)) dL_law_1535 ?_
  refine yl_aload_n E dL_law_1536 3 rfl ?_
  refine yl_iload_n E dL_law_1537 0 rfl ?_
  refine yl_iconst (v := 2) E dL_law_1538 (by decide) ?_
  refine yl_iadd E dL_law_1539 ?_
  refine yl_sld E (hin 2 (by decide) (by decide)) dL_law_1540 ?_
  refine yl_aload_n E dL_law_1541 3 rfl ?_
  refine yl_iload_n E dL_law_1542 0 rfl ?_
  refine yl_iconst (v := 3) E dL_law_1543 (by decide) ?_
  refine yl_iadd E dL_law_1544 ?_
  refine yl_sld E (hin 3 (by decide) (by decide)) dL_law_1545 ?_
  refine yl_aload_n E dL_law_1546 3 rfl ?_
  refine yl_iload_n E dL_law_1547 0 rfl ?_
  refine yl_iconst (v := 4) E dL_law_1548 (by decide) ?_
  refine yl_iadd E dL_law_1549 ?_
  refine yl_sld E (hin 4 (by decide) (by decide)) dL_law_1550 ?_
  refine yl_callXi E (yl_runX (rest := []) E (kX11_thingsBy l w E.2.2.2.1.1 σ (xs (x3 + 1).toNatClampNeg) (xs (x3 + 2).toNatClampNeg) (xs (x3 + 3).toNatClampNeg) (xs (x3 + 4).toNatClampNeg) _ hv) (y_cwV 4 E.1.2.2.2.2 wm_1045 wm_1046 wm_1047 wm_116 wm_1048 (by decide +kernel) ⟨Nat.le_of_ble_eq_true rfl, Nat.le_of_ble_eq_true rfl⟩) rfl rfl (Nat.le_of_ble_eq_true rfl) dL_law_1551) (fun v0 u0 hk => ?_)
  clear hv; have hv := hk; clear hk
  refine yl_aload_n E dL_law_1554 1 rfl ?_
  refine yl_aload_n E dL_law_1555 3 rfl ?_
  refine yl_iload_n E dL_law_1556 0 rfl ?_
  refine yl_iconst (v := 1) E dL_law_1557 (by decide) ?_
  refine yl_iadd E dL_law_1558 ?_
  refine yl_sld E (hin 1 (by decide) (by decide)) dL_law_1559 ?_
  refine yl_aload_n E dL_law_1560 3 rfl ?_
  refine yl_iload_n E dL_law_1561 0 rfl ?_
  refine yl_iconst (v := 2) E dL_law_1562 (by decide) ?_
  refine yl_iadd E dL_law_1563 ?_
  refine yl_sld E (hin 2 (by decide) (by decide)) dL_law_1564 ?_
  refine yl_aload_n E dL_law_1565 3 rfl ?_
  refine yl_iload_n E dL_law_1566 0 rfl ?_
  refine yl_iconst (v := 3) E dL_law_1567 (by decide) ?_
  refine yl_iadd E dL_law_1568 ?_
  refine yl_sld E (hin 3 (by decide) (by decide)) dL_law_1569 ?_
  refine yl_aload_n E dL_law_1570 3 rfl ?_
  refine yl_iload_n E dL_law_1571 0 rfl ?_
  refine yl_iconst (v := 4) E dL_law_1572 (by decide) ?_
  refine yl_iadd E dL_law_1573 ?_
  refine yl_sld E (hin 4 (by decide) (by decide)) dL_law_1574 ?_
  refine yl_callMi E (yl_runM (rest := [.int v0]) E (kX12_thingsBy l w2 E.2.2.2.1.2.1 τ (xs (x3 + 1).toNatClampNeg) (xs (x3 + 2).toNatClampNeg) (xs (x3 + 3).toNatClampNeg) (xs (x3 + 4).toNatClampNeg) _ hv) (y_cwV 4 E.1.2.2.2.2 wm_1049 wm_1050 wm_1051 wm_479 wm_1052 (by decide +kernel) ⟨Nat.le_of_ble_eq_true rfl, Nat.le_of_ble_eq_true rfl⟩) rfl rfl (Nat.le_of_ble_eq_true rfl) dL_law_1575) (fun v1 u1 hk => ?_)
  clear hv; have hv := hk; clear hk
  obtain ⟨hve, hI2⟩ := hv
  exact yl_icmp_eq (tgt := 1616) E dL_law_1578 (by decide) (fun _ => kk _ _ hI2) (fun h => absurd hve h)
set_option maxRecDepth 100000 in
set_option maxHeartbeats 4000000 in
theorem law_38 {p : Program} {l : Launch} {e : Env} {s : State} {m : MethodId} {args : Array Value} {below : List Frame} {meth : Method} {c : Code} {w w2 : wT} {A : Nat → Prop} {Q : State → Prop} {σ τ : Hp} {b L : Nat} {xs : Nat → Int32} {Inv : Hp → Hp → Prop} {x3 : Int32} (E : LE p m meth c s args w w2 A b L xs) (hs : LSteps Inv) (hI : Inv σ τ) (hin : ∀ k : Int32, 1 ≤ k → k ≤ 6 → vp_in (x3 + k) L) (kk : ∀ u u', Inv u u' → YL p l e s m args below meth c w w2 A Q u u' 1616 [(3, .int x3), (2, .ref (w2.1 0)), (1, .ref (w.1 0)), (0, .ref b)] []) : YL p l e s m args below meth c w w2 A Q σ τ 1583 [(3, .int x3), (2, .ref (w2.1 0)), (1, .ref (w.1 0)), (0, .ref b)] [] := by
  have hv := ls_38 hs σ τ hI (xs (x3 + 1).toNatClampNeg) (xs (x3 + 2).toNatClampNeg)
  refine yl_aload_n E dL_law_1583 2 rfl ?_
  refine yl_aload_n E dL_law_1584 3 rfl ?_
  refine yl_iload_n E dL_law_1585 0 rfl ?_
  refine yl_iconst (v := 1) E dL_law_1586 (by decide) ?_
  refine yl_iadd E dL_law_1587 ?_
  refine yl_sld E (hin 1 (by decide) (by decide)) dL_law_1588 ?_
  refine yl_aload_n E dL_law_1589 3 rfl ?_
  refine yl_iload_n E dL_law_1590 0 rfl ?_
  refine yl_iconst (v := 2) E dL_law_1591 (by decide) ?_
  refine yl_iadd E dL_law_1592 ?_
  refine yl_sld E (hin 2 (by decide) (by decide)) dL_law_1593 ?_
  refine yl_callXi E (yl_runX (rest := []) E (kX11_taken l w E.2.2.2.1.1 σ (xs (x3 + 1).toNatClampNeg) (xs (x3 + 2).toNatClampNeg) _ hv) (y_cwV 2 E.1.2.2.2.2 wm_1053 wm_1054 wm_1055 wm_116 wm_1056 (by decide +kernel) ⟨Nat.le_of_ble_eq_true rfl, Nat.le_of_ble_eq_true rfl⟩) rfl rfl (Nat.le_of_ble_eq_true rfl) dL_law_1594) (fun v0 u0 hk => ?_)
  clear hv; have hv := hk; clear hk
  refine yl_aload_n E dL_law_1597 1 rfl ?_
  refine yl_aload_n E dL_law_1598 3 rfl ?_
  refine yl_iload_n E dL_law_1599 0 rfl ?_
  refine yl_iconst (v := 1) E dL_law_1600 (by decide) ?_
  refine yl_iadd E dL_law_1601 ?_
  refine yl_sld E (hin 1 (by decide) (by decide)) dL_law_1602 ?_
  refine yl_aload_n E dL_law_1603 3 rfl ?_
  refine yl_iload_n E dL_law_1604 0 rfl ?_
  refine yl_iconst (v := 2) E dL_law_1605 (by decide) ?_
  refine yl_iadd E dL_law_1606 ?_
  refine yl_sld E (hin 2 (by decide) (by decide)) dL_law_1607 ?_
  refine yl_callMi E (yl_runM (rest := [.int v0]) E (kX12_taken l w2 E.2.2.2.1.2.1 τ (xs (x3 + 1).toNatClampNeg) (xs (x3 + 2).toNatClampNeg) _ hv) (y_cwV 2 E.1.2.2.2.2 wm_1057 wm_1058 wm_1059 wm_479 wm_1060 (by decide +kernel) ⟨Nat.le_of_ble_eq_true rfl, Nat.le_of_ble_eq_true rfl⟩) rfl rfl (Nat.le_of_ble_eq_true rfl) dL_law_1608) (fun v1 u1 hk => ?_)
  clear hv; have hv := hk; clear hk
  obtain ⟨hve, hI2⟩ := hv
  exact yl_icmp_eq (tgt := 1616) E dL_law_1611 (by decide) (fun _ => kk _ _ hI2) (fun h => absurd hve h)
set_option maxRecDepth 100000 in
set_option maxHeartbeats 4000000 in
theorem law_loop {p : Program} {l : Launch} {e : Env} {s : State} {m : MethodId} {args : Array Value} {below : List Frame} {meth : Method} {c : Code} {w w2 : wT} {A : Nat → Prop} {Q : State → Prop} {b L : Nat} {xs : Nat → Int32} {Inv : Hp → Hp → Prop} (E : LE p m meth c s args w w2 A b L xs) (hs : LSteps Inv) (hend : ∀ (H : Heap) (locs : List Loc) (ls : Array Slot), va_S A s.heap H locs → W p l e room_1 s m args below meth c H locs 600000 7302250 Q (F0 m 1623 ls [.int 1])) : ∀ (n i : Nat) (x3 : Int32) (σ τ : Hp), x3 = nI i → L + 7 < i + n → i ≤ L + 7 → Inv σ τ → YL p l e s m args below meth c w w2 A Q σ τ 18 [(3, .int x3), (2, .ref (w2.1 0)), (1, .ref (w.1 0)), (0, .ref b)] [] := by
  have hL : L ≤ 3584 := E.2.2.2.2.2.2.2.2
  intro n
  induction n with
  | zero => intro i x3 σ τ _ h1 h2; omega
  | succ n ih =>
    intro i x3 σ τ hx h1 h2 hI
    refine yl_iload_n E dL_law_18 0 rfl ?_
    refine yl_aload_n E dL_law_19 3 rfl ?_
    refine yl_slen E dL_law_20 ?_
    refine yl_bipush (v := 7) E dL_law_21 (by decide) ?_
    refine yl_isub E dL_law_23 ?_
    refine yl_icmp_gt (tgt := 1622) E dL_law_24 (by decide) (fun _ => ?_) (fun hc => ?_)
    · refine yl_iconst (v := 1) E dL_law_1622 (by decide) ?_
      exact fun H locs ls hP hS hl => hend H locs ls hS
    · have hc2 : i + 7 ≤ L := by
        rw [Int32.lt_iff_toInt_lt, hx, nI_toInt (by omega), show (nI L - 7 : Int32) = nI L - nI 7 from rfl, pk_sub_toInt (by omega) (by omega)] at hc
        omega
      have hin : ∀ k : Int32, 1 ≤ k → k ≤ 6 → vp_in (x3 + k) L := by
        intro k k1 k2
        rw [Int32.le_iff_toInt_le] at k1 k2
        have k1' : (1 : Int) ≤ k.toInt := k1
        have k2' : k.toInt ≤ 6 := k2
        obtain ⟨j, hj, rfl⟩ : ∃ j : Nat, j < 2 ^ 31 ∧ k = nI j := nI_of (by rw [Int32.lt_iff_toInt_lt]; show ¬ k.toInt < 0; omega)
        rw [nI_toInt hj] at k1' k2'
        rw [hx, nI_add]
        exact vp_in_nI (by omega) (by omega)
      refine yl_aload_n E dL_law_27 3 rfl ?_
      refine yl_iload_n E dL_law_28 0 rfl ?_
      refine yl_sld E (by rw [hx]; exact vp_in_nI (by omega) (by omega)) dL_law_29 ?_
      refine yl_bipush (v := 63) E dL_law_30 (by decide) ?_
      refine yl_iand E dL_law_32 ?_
      have kk : ∀ u u', Inv u u' → YL p l e s m args below meth c w w2 A Q u u' 1616 [(3, .int x3), (2, .ref (w2.1 0)), (1, .ref (w.1 0)), (0, .ref b)] [] := by
        intro u u' hI2
        refine yl_iinc (v := x3 + 7) (lv' := [(3, .int (x3 + 7)), (2, .ref (w2.1 0)), (1, .ref (w.1 0)), (0, .ref b)]) E dL_law_1616 0 rfl rfl (by decide) rfl ?_
        refine yl_goto (tgt := 18) E dL_law_1619 (by decide) ?_
        exact ih (i + 7) (x3 + 7) u u' (by rw [hx]; exact nI_add i 7) (by omega) (by omega) hI2
      generalize hxe : xs x3.toNatClampNeg &&& 63 = z
      by_cases hz : z.toInt < 0 ∨ 38 < z.toInt
      · exact yl_tableOut (tgt := 1616) E dL_law_33 hz (by decide) (kk _ _ hI)
      · obtain ⟨j, hj, hzj⟩ : ∃ j : Nat, j < 39 ∧ z.toInt = (j : Int) := ⟨z.toInt.toNat, by omega, by omega⟩
        match j, hj, hzj with
        | 0, _, hzj => exact yl_tableIn (tgt := 204) (off := 171) (j := 0) E dL_law_33 hzj (by decide) rfl (by decide) (law_0 E hs hI hin kk)
        | 1, _, hzj => exact yl_tableIn (tgt := 247) (off := 214) (j := 1) E dL_law_33 hzj (by decide) rfl (by decide) (law_1 E hs hI hin kk)
        | 2, _, hzj => exact yl_tableIn (tgt := 270) (off := 237) (j := 2) E dL_law_33 hzj (by decide) rfl (by decide) (law_2 E hs hI hin kk)
        | 3, _, hzj => exact yl_tableIn (tgt := 293) (off := 260) (j := 3) E dL_law_33 hzj (by decide) rfl (by decide) (law_3 E hs hI hin kk)
        | 4, _, hzj => exact yl_tableIn (tgt := 368) (off := 335) (j := 4) E dL_law_33 hzj (by decide) rfl (by decide) (law_4 E hs hI hin kk)
        | 5, _, hzj => exact yl_tableIn (tgt := 381) (off := 348) (j := 5) E dL_law_33 hzj (by decide) rfl (by decide) (law_5 E hs hI hin kk)
        | 6, _, hzj => exact yl_tableIn (tgt := 404) (off := 371) (j := 6) E dL_law_33 hzj (by decide) rfl (by decide) (law_6 E hs hI hin kk)
        | 7, _, hzj => exact yl_tableIn (tgt := 457) (off := 424) (j := 7) E dL_law_33 hzj (by decide) rfl (by decide) (law_7 E hs hI hin kk)
        | 8, _, hzj => exact yl_tableIn (tgt := 500) (off := 467) (j := 8) E dL_law_33 hzj (by decide) rfl (by decide) (law_8 E hs hI hin kk)
        | 9, _, hzj => exact yl_tableIn (tgt := 543) (off := 510) (j := 9) E dL_law_33 hzj (by decide) rfl (by decide) (law_9 E hs hI hin kk)
        | 10, _, hzj => exact yl_tableIn (tgt := 576) (off := 543) (j := 10) E dL_law_33 hzj (by decide) rfl (by decide) (law_10 E hs hI hin kk)
        | 11, _, hzj => exact yl_tableIn (tgt := 619) (off := 586) (j := 11) E dL_law_33 hzj (by decide) rfl (by decide) (law_11 E hs hI hin kk)
        | 12, _, hzj => exact yl_tableIn (tgt := 642) (off := 609) (j := 12) E dL_law_33 hzj (by decide) rfl (by decide) (law_12 E hs hI hin kk)
        | 13, _, hzj => exact yl_tableIn (tgt := 675) (off := 642) (j := 13) E dL_law_33 hzj (by decide) rfl (by decide) (law_13 E hs hI hin kk)
        | 14, _, hzj => exact yl_tableIn (tgt := 708) (off := 675) (j := 14) E dL_law_33 hzj (by decide) rfl (by decide) (law_14 E hs hI hin kk)
        | 15, _, hzj => exact yl_tableIn (tgt := 741) (off := 708) (j := 15) E dL_law_33 hzj (by decide) rfl (by decide) (law_15 E hs hI hin kk)
        | 16, _, hzj => exact yl_tableIn (tgt := 774) (off := 741) (j := 16) E dL_law_33 hzj (by decide) rfl (by decide) (law_16 E hs hI hin kk)
        | 17, _, hzj => exact yl_tableIn (tgt := 807) (off := 774) (j := 17) E dL_law_33 hzj (by decide) rfl (by decide) (law_17 E hs hI hin kk)
        | 18, _, hzj => exact yl_tableIn (tgt := 840) (off := 807) (j := 18) E dL_law_33 hzj (by decide) rfl (by decide) (law_18 E hs hI hin kk)
        | 19, _, hzj => exact yl_tableIn (tgt := 883) (off := 850) (j := 19) E dL_law_33 hzj (by decide) rfl (by decide) (law_19 E hs hI hin kk)
        | 20, _, hzj => exact yl_tableIn (tgt := 896) (off := 863) (j := 20) E dL_law_33 hzj (by decide) rfl (by decide) (law_20 E hs hI hin kk)
        | 21, _, hzj => exact yl_tableIn (tgt := 939) (off := 906) (j := 21) E dL_law_33 hzj (by decide) rfl (by decide) (law_21 E hs hI hin kk)
        | 22, _, hzj => exact yl_tableIn (tgt := 972) (off := 939) (j := 22) E dL_law_33 hzj (by decide) rfl (by decide) (law_22 E hs hI hin kk)
        | 23, _, hzj => exact yl_tableIn (tgt := 1005) (off := 972) (j := 23) E dL_law_33 hzj (by decide) rfl (by decide) (law_23 E hs hI hin kk)
        | 24, _, hzj => exact yl_tableIn (tgt := 1048) (off := 1015) (j := 24) E dL_law_33 hzj (by decide) rfl (by decide) (law_24 E hs hI hin kk)
        | 25, _, hzj => exact yl_tableIn (tgt := 1091) (off := 1058) (j := 25) E dL_law_33 hzj (by decide) rfl (by decide) (law_25 E hs hI hin kk)
        | 26, _, hzj => exact yl_tableIn (tgt := 1135) (off := 1102) (j := 26) E dL_law_33 hzj (by decide) rfl (by decide) (law_26 E hs hI hin kk)
        | 27, _, hzj => exact yl_tableIn (tgt := 1168) (off := 1135) (j := 27) E dL_law_33 hzj (by decide) rfl (by decide) (law_27 E hs hI hin kk)
        | 28, _, hzj => exact yl_tableIn (tgt := 1192) (off := 1159) (j := 28) E dL_law_33 hzj (by decide) rfl (by decide) (law_28 E hs hI hin kk)
        | 29, _, hzj => exact yl_tableIn (tgt := 1225) (off := 1192) (j := 29) E dL_law_33 hzj (by decide) rfl (by decide) (law_29 E hs hI hin kk)
        | 30, _, hzj => exact yl_tableIn (tgt := 1258) (off := 1225) (j := 30) E dL_law_33 hzj (by decide) rfl (by decide) (law_30 E hs hI hin kk)
        | 31, _, hzj => exact yl_tableIn (tgt := 1301) (off := 1268) (j := 31) E dL_law_33 hzj (by decide) rfl (by decide) (law_31 E hs hI hin kk)
        | 32, _, hzj => exact yl_tableIn (tgt := 1355) (off := 1322) (j := 32) E dL_law_33 hzj (by decide) rfl (by decide) (law_32 E hs hI hin kk)
        | 33, _, hzj => exact yl_tableIn (tgt := 1368) (off := 1335) (j := 33) E dL_law_33 hzj (by decide) rfl (by decide) (law_33 E hs hI hin kk)
        | 34, _, hzj => exact yl_tableIn (tgt := 1381) (off := 1348) (j := 34) E dL_law_33 hzj (by decide) rfl (by decide) (law_34 E hs hI hin kk)
        | 35, _, hzj => exact yl_tableIn (tgt := 1424) (off := 1391) (j := 35) E dL_law_33 hzj (by decide) rfl (by decide) (law_35 E hs hI hin kk)
        | 36, _, hzj => exact yl_tableIn (tgt := 1467) (off := 1434) (j := 36) E dL_law_33 hzj (by decide) rfl (by decide) (law_36 E hs hI hin kk)
        | 37, _, hzj => exact yl_tableIn (tgt := 1530) (off := 1497) (j := 37) E dL_law_33 hzj (by decide) rfl (by decide) (law_37 E hs hI hin kk)
        | 38, _, hzj => exact yl_tableIn (tgt := 1583) (off := 1550) (j := 38) E dL_law_33 hzj (by decide) rfl (by decide) (law_38 E hs hI hin kk)
        | j + 39, hj, _ => exact absurd hj (by omega)
