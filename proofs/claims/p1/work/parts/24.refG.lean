set_option maxHeartbeats 4000000 in
set_option maxRecDepth 100000 in
theorem q_alike_0 {X : Nat × (Nat → Int32)} {fr : Nat} {M : Mem} (y : Int32) (hv_y : ¬ (y < 0 ∨ 4 ≤ y)) (h0 : Cm fs42 M) : AM yX11_alike cX11_alike 5 (some .int) true (fr + 12) 0 0 X [.ref 89, .int 0, .int y] M (fun v M1 => v = some (.int (-5)) ∧ True) := by
  refine AM.of false (by decide +kernel) (by intro h; cases h) (Nat.le_of_ble_eq_true rfl) ?_
  show AW X (RX11, cX11_alike, 5, (some .int), false, true, fr + 12) 0 0 0 [(0, .ref 89), (1, .int 0), (2, .int y)] [] M _
  refine a_aload_n dX11_alike_0 rfl rfl ?_
  refine a_iconst (v := 0) dX11_alike_1 (by decide) ?_
  refine a_putI dX11_alike_2 (Or.inl ⟨fl_11_1, Or.inl rfl⟩) rfl (cm_l h0 (by decide)) (cm_s h0 (by decide) rfl) rfl rfl ?_
  have h1 : Cm (up2 fs42 89 0 0) (wI M 89 0 0) := cm_I h0 (by decide)
  generalize (wI M 89 0 0) = M1 at h1 ⊢
  refine a_iload_n dX11_alike_5 rfl rfl ?_
  refine a_callS (As := [.int 0]) (st := []) (bc := 0) (bs := 0) (mc := 0) (ms := 0) false dX11_alike_6 mw_X11_isSlot rfl (Or.inl ⟨rfl, ml_X11_271⟩) sm_X11_isSlot rfl (Nat.le_of_ble_eq_true rfl) (z2083_X11_isSlot (fr := fr) y hv_y h1) (fun v M2 hq => ?_)
  obtain ⟨rfl, h2⟩ := hq
  show AW X _ 0 0 9 _ [.int 1] _ _
  refine a_if_eq 19 dX11_alike_9 (by decide) (fun c => absurd c (by decide)) (fun _ => ?_)
  refine a_iload_n dX11_alike_12 rfl rfl ?_
  refine a_callS (As := [.int y]) (st := []) (bc := 0) (bs := 0) (mc := 0) (ms := 0) false dX11_alike_13 mw_X11_isSlot rfl (Or.inl ⟨rfl, ml_X11_271⟩) sm_X11_isSlot rfl (Nat.le_of_ble_eq_true rfl) (z2084_X11_isSlot (fr := fr) y hv_y h2) (fun v M3 hq => ?_)
  obtain ⟨rfl, h3⟩ := hq
  show AW X _ 0 0 16 _ [.int 1] _ _
  refine a_if_ne 22 dX11_alike_16 (by decide) (fun _ => ?_) (fun c => absurd c (by decide))
  refine a_aload_n dX11_alike_22 rfl rfl ?_
  refine a_iload_n dX11_alike_23 rfl rfl ?_
  refine a_callV (As := [.int 0]) (st := []) (a := 89) (ci := 11) (bc := 0) (bs := 0) (mc := 0) (ms := 0) false dX11_alike_24 mw_X11_isEmpty rfl (Or.inl ⟨rfl, ml_X11_343⟩) im_X11_isEmpty se_X11_isEmpty (by decide) (cm_l h3 (by decide)) (cm_s h3 (by decide) rfl) rfl (Nat.le_of_ble_eq_true rfl) (z2085_X11_isEmpty (fr := fr) y hv_y h3) (fun v M4 hq => ?_)
  obtain ⟨rfl, h4⟩ := hq
  show AW X _ 0 0 27 _ [.int 1] _ _
  refine a_if_ne 38 dX11_alike_27 (by decide) (fun _ => ?_) (fun c => absurd c (by decide))
  refine a_bipush (v := (-5)) dX11_alike_38 (by decide) ?_
  exact a_iret dX11_alike_40 rfl ⟨by first | rfl | decide +kernel | simp [*], trivial⟩
set_option maxHeartbeats 4000000 in
set_option maxRecDepth 100000 in
theorem q_alike_1b {X : Nat × (Nat → Int32)} {fr : Nat} {M : Mem} (y : Int32) (hb_y : y < 0 ∨ 4 ≤ y) (h0 : Cm fs42 M) : AM yX11_alike cX11_alike 5 (some .int) true (fr + 12) 0 0 X [.ref 89, .int 1, .int y] M (fun v M1 => v = some (.int (-2)) ∧ True) := by
  refine AM.of false (by decide +kernel) (by intro h; cases h) (Nat.le_of_ble_eq_true rfl) ?_
  show AW X (RX11, cX11_alike, 5, (some .int), false, true, fr + 12) 0 0 0 [(0, .ref 89), (1, .int 1), (2, .int y)] [] M _
  refine a_aload_n dX11_alike_0 rfl rfl ?_
  refine a_iconst (v := 0) dX11_alike_1 (by decide) ?_
  refine a_putI dX11_alike_2 (Or.inl ⟨fl_11_1, Or.inl rfl⟩) rfl (cm_l h0 (by decide)) (cm_s h0 (by decide) rfl) rfl rfl ?_
  have h1 : Cm (up2 fs42 89 0 0) (wI M 89 0 0) := cm_I h0 (by decide)
  generalize (wI M 89 0 0) = M1 at h1 ⊢
  refine a_iload_n dX11_alike_5 rfl rfl ?_
  refine a_callS (As := [.int 1]) (st := []) (bc := 0) (bs := 0) (mc := 0) (ms := 0) false dX11_alike_6 mw_X11_isSlot rfl (Or.inl ⟨rfl, ml_X11_271⟩) sm_X11_isSlot rfl (Nat.le_of_ble_eq_true rfl) (z2086_X11_isSlot (fr := fr) y hb_y h1) (fun v M2 hq => ?_)
  obtain ⟨rfl, h2⟩ := hq
  show AW X _ 0 0 9 _ [.int 1] _ _
  refine a_if_eq 19 dX11_alike_9 (by decide) (fun c => absurd c (by decide)) (fun _ => ?_)
  refine a_iload_n dX11_alike_12 rfl rfl ?_
  refine a_callS (As := [.int y]) (st := []) (bc := 0) (bs := 0) (mc := 0) (ms := 0) false dX11_alike_13 mw_X11_isSlot rfl (Or.inl ⟨rfl, ml_X11_271⟩) sm_X11_isSlot rfl (Nat.le_of_ble_eq_true rfl) (z2082_X11_isSlot (fr := fr) y hb_y h2) (fun v M3 hq => ?_)
  obtain ⟨rfl, h3⟩ := hq
  show AW X _ 0 0 16 _ [.int 0] _ _
  refine a_if_ne 22 dX11_alike_16 (by decide) (fun c => absurd (by decide) c) (fun _ => ?_)
  refine a_bipush (v := (-2)) dX11_alike_19 (by decide) ?_
  exact a_iret dX11_alike_21 rfl ⟨by first | rfl | decide +kernel | simp [*], trivial⟩
set_option maxHeartbeats 4000000 in
set_option maxRecDepth 100000 in
theorem q_alike_1 {X : Nat × (Nat → Int32)} {fr : Nat} {M : Mem} (y : Int32) (hv_y : ¬ (y < 0 ∨ 4 ≤ y)) (h0 : Cm fs42 M) : AM yX11_alike cX11_alike 5 (some .int) true (fr + 12) 0 0 X [.ref 89, .int 1, .int y] M (fun v M1 => v = some (.int (-5)) ∧ True) := by
  refine AM.of false (by decide +kernel) (by intro h; cases h) (Nat.le_of_ble_eq_true rfl) ?_
  show AW X (RX11, cX11_alike, 5, (some .int), false, true, fr + 12) 0 0 0 [(0, .ref 89), (1, .int 1), (2, .int y)] [] M _
  refine a_aload_n dX11_alike_0 rfl rfl ?_
  refine a_iconst (v := 0) dX11_alike_1 (by decide) ?_
  refine a_putI dX11_alike_2 (Or.inl ⟨fl_11_1, Or.inl rfl⟩) rfl (cm_l h0 (by decide)) (cm_s h0 (by decide) rfl) rfl rfl ?_
  have h1 : Cm (up2 fs42 89 0 0) (wI M 89 0 0) := cm_I h0 (by decide)
  generalize (wI M 89 0 0) = M1 at h1 ⊢
  refine a_iload_n dX11_alike_5 rfl rfl ?_
  refine a_callS (As := [.int 1]) (st := []) (bc := 0) (bs := 0) (mc := 0) (ms := 0) false dX11_alike_6 mw_X11_isSlot rfl (Or.inl ⟨rfl, ml_X11_271⟩) sm_X11_isSlot rfl (Nat.le_of_ble_eq_true rfl) (z2087_X11_isSlot (fr := fr) y hv_y h1) (fun v M2 hq => ?_)
  obtain ⟨rfl, h2⟩ := hq
  show AW X _ 0 0 9 _ [.int 1] _ _
  refine a_if_eq 19 dX11_alike_9 (by decide) (fun c => absurd c (by decide)) (fun _ => ?_)
  refine a_iload_n dX11_alike_12 rfl rfl ?_
  refine a_callS (As := [.int y]) (st := []) (bc := 0) (bs := 0) (mc := 0) (ms := 0) false dX11_alike_13 mw_X11_isSlot rfl (Or.inl ⟨rfl, ml_X11_271⟩) sm_X11_isSlot rfl (Nat.le_of_ble_eq_true rfl) (z2084_X11_isSlot (fr := fr) y hv_y h2) (fun v M3 hq => ?_)
  obtain ⟨rfl, h3⟩ := hq
  show AW X _ 0 0 16 _ [.int 1] _ _
  refine a_if_ne 22 dX11_alike_16 (by decide) (fun _ => ?_) (fun c => absurd c (by decide))
  refine a_aload_n dX11_alike_22 rfl rfl ?_
  refine a_iload_n dX11_alike_23 rfl rfl ?_
  refine a_callV (As := [.int 1]) (st := []) (a := 89) (ci := 11) (bc := 0) (bs := 0) (mc := 0) (ms := 0) false dX11_alike_24 mw_X11_isEmpty rfl (Or.inl ⟨rfl, ml_X11_343⟩) im_X11_isEmpty se_X11_isEmpty (by decide) (cm_l h3 (by decide)) (cm_s h3 (by decide) rfl) rfl (Nat.le_of_ble_eq_true rfl) (z2088_X11_isEmpty (fr := fr) y hv_y h3) (fun v M4 hq => ?_)
  obtain ⟨rfl, h4⟩ := hq
  show AW X _ 0 0 27 _ [.int 1] _ _
  refine a_if_ne 38 dX11_alike_27 (by decide) (fun _ => ?_) (fun c => absurd c (by decide))
  refine a_bipush (v := (-5)) dX11_alike_38 (by decide) ?_
  exact a_iret dX11_alike_40 rfl ⟨by first | rfl | decide +kernel | simp [*], trivial⟩
set_option maxHeartbeats 4000000 in
set_option maxRecDepth 100000 in
theorem q_alike_2b {X : Nat × (Nat → Int32)} {fr : Nat} {M : Mem} (y : Int32) (hb_y : y < 0 ∨ 4 ≤ y) (h0 : Cm fs42 M) : AM yX11_alike cX11_alike 5 (some .int) true (fr + 12) 0 0 X [.ref 89, .int 2, .int y] M (fun v M1 => v = some (.int (-2)) ∧ True) := by
  refine AM.of false (by decide +kernel) (by intro h; cases h) (Nat.le_of_ble_eq_true rfl) ?_
  show AW X (RX11, cX11_alike, 5, (some .int), false, true, fr + 12) 0 0 0 [(0, .ref 89), (1, .int 2), (2, .int y)] [] M _
  refine a_aload_n dX11_alike_0 rfl rfl ?_
  refine a_iconst (v := 0) dX11_alike_1 (by decide) ?_
  refine a_putI dX11_alike_2 (Or.inl ⟨fl_11_1, Or.inl rfl⟩) rfl (cm_l h0 (by decide)) (cm_s h0 (by decide) rfl) rfl rfl ?_
  have h1 : Cm (up2 fs42 89 0 0) (wI M 89 0 0) := cm_I h0 (by decide)
  generalize (wI M 89 0 0) = M1 at h1 ⊢
  refine a_iload_n dX11_alike_5 rfl rfl ?_
  refine a_callS (As := [.int 2]) (st := []) (bc := 0) (bs := 0) (mc := 0) (ms := 0) false dX11_alike_6 mw_X11_isSlot rfl (Or.inl ⟨rfl, ml_X11_271⟩) sm_X11_isSlot rfl (Nat.le_of_ble_eq_true rfl) (z2089_X11_isSlot (fr := fr) y hb_y h1) (fun v M2 hq => ?_)
  obtain ⟨rfl, h2⟩ := hq
  show AW X _ 0 0 9 _ [.int 1] _ _
  refine a_if_eq 19 dX11_alike_9 (by decide) (fun c => absurd c (by decide)) (fun _ => ?_)
  refine a_iload_n dX11_alike_12 rfl rfl ?_
  refine a_callS (As := [.int y]) (st := []) (bc := 0) (bs := 0) (mc := 0) (ms := 0) false dX11_alike_13 mw_X11_isSlot rfl (Or.inl ⟨rfl, ml_X11_271⟩) sm_X11_isSlot rfl (Nat.le_of_ble_eq_true rfl) (z2082_X11_isSlot (fr := fr) y hb_y h2) (fun v M3 hq => ?_)
  obtain ⟨rfl, h3⟩ := hq
  show AW X _ 0 0 16 _ [.int 0] _ _
  refine a_if_ne 22 dX11_alike_16 (by decide) (fun c => absurd (by decide) c) (fun _ => ?_)
  refine a_bipush (v := (-2)) dX11_alike_19 (by decide) ?_
  exact a_iret dX11_alike_21 rfl ⟨by first | rfl | decide +kernel | simp [*], trivial⟩
set_option maxHeartbeats 4000000 in
set_option maxRecDepth 100000 in
theorem q_alike_2 {X : Nat × (Nat → Int32)} {fr : Nat} {M : Mem} (y : Int32) (hv_y : ¬ (y < 0 ∨ 4 ≤ y)) (h0 : Cm fs42 M) : AM yX11_alike cX11_alike 5 (some .int) true (fr + 12) 0 0 X [.ref 89, .int 2, .int y] M (fun v M1 => v = some (.int (-5)) ∧ True) := by
  refine AM.of false (by decide +kernel) (by intro h; cases h) (Nat.le_of_ble_eq_true rfl) ?_
  show AW X (RX11, cX11_alike, 5, (some .int), false, true, fr + 12) 0 0 0 [(0, .ref 89), (1, .int 2), (2, .int y)] [] M _
  refine a_aload_n dX11_alike_0 rfl rfl ?_
  refine a_iconst (v := 0) dX11_alike_1 (by decide) ?_
  refine a_putI dX11_alike_2 (Or.inl ⟨fl_11_1, Or.inl rfl⟩) rfl (cm_l h0 (by decide)) (cm_s h0 (by decide) rfl) rfl rfl ?_
  have h1 : Cm (up2 fs42 89 0 0) (wI M 89 0 0) := cm_I h0 (by decide)
  generalize (wI M 89 0 0) = M1 at h1 ⊢
  refine a_iload_n dX11_alike_5 rfl rfl ?_
  refine a_callS (As := [.int 2]) (st := []) (bc := 0) (bs := 0) (mc := 0) (ms := 0) false dX11_alike_6 mw_X11_isSlot rfl (Or.inl ⟨rfl, ml_X11_271⟩) sm_X11_isSlot rfl (Nat.le_of_ble_eq_true rfl) (z2090_X11_isSlot (fr := fr) y hv_y h1) (fun v M2 hq => ?_)
  obtain ⟨rfl, h2⟩ := hq
  show AW X _ 0 0 9 _ [.int 1] _ _
  refine a_if_eq 19 dX11_alike_9 (by decide) (fun c => absurd c (by decide)) (fun _ => ?_)
  refine a_iload_n dX11_alike_12 rfl rfl ?_
  refine a_callS (As := [.int y]) (st := []) (bc := 0) (bs := 0) (mc := 0) (ms := 0) false dX11_alike_13 mw_X11_isSlot rfl (Or.inl ⟨rfl, ml_X11_271⟩) sm_X11_isSlot rfl (Nat.le_of_ble_eq_true rfl) (z2084_X11_isSlot (fr := fr) y hv_y h2) (fun v M3 hq => ?_)
  obtain ⟨rfl, h3⟩ := hq
  show AW X _ 0 0 16 _ [.int 1] _ _
  refine a_if_ne 22 dX11_alike_16 (by decide) (fun _ => ?_) (fun c => absurd c (by decide))
  refine a_aload_n dX11_alike_22 rfl rfl ?_
  refine a_iload_n dX11_alike_23 rfl rfl ?_
  refine a_callV (As := [.int 2]) (st := []) (a := 89) (ci := 11) (bc := 0) (bs := 0) (mc := 0) (ms := 0) false dX11_alike_24 mw_X11_isEmpty rfl (Or.inl ⟨rfl, ml_X11_343⟩) im_X11_isEmpty se_X11_isEmpty (by decide) (cm_l h3 (by decide)) (cm_s h3 (by decide) rfl) rfl (Nat.le_of_ble_eq_true rfl) (z2091_X11_isEmpty (fr := fr) y hv_y h3) (fun v M4 hq => ?_)
  obtain ⟨rfl, h4⟩ := hq
  show AW X _ 0 0 27 _ [.int 1] _ _
  refine a_if_ne 38 dX11_alike_27 (by decide) (fun _ => ?_) (fun c => absurd c (by decide))
  refine a_bipush (v := (-5)) dX11_alike_38 (by decide) ?_
  exact a_iret dX11_alike_40 rfl ⟨by first | rfl | decide +kernel | simp [*], trivial⟩
set_option maxHeartbeats 4000000 in
set_option maxRecDepth 100000 in
theorem q_alike_3b {X : Nat × (Nat → Int32)} {fr : Nat} {M : Mem} (y : Int32) (hb_y : y < 0 ∨ 4 ≤ y) (h0 : Cm fs42 M) : AM yX11_alike cX11_alike 5 (some .int) true (fr + 12) 0 0 X [.ref 89, .int 3, .int y] M (fun v M1 => v = some (.int (-2)) ∧ True) := by
  refine AM.of false (by decide +kernel) (by intro h; cases h) (Nat.le_of_ble_eq_true rfl) ?_
  show AW X (RX11, cX11_alike, 5, (some .int), false, true, fr + 12) 0 0 0 [(0, .ref 89), (1, .int 3), (2, .int y)] [] M _
  refine a_aload_n dX11_alike_0 rfl rfl ?_
  refine a_iconst (v := 0) dX11_alike_1 (by decide) ?_
  refine a_putI dX11_alike_2 (Or.inl ⟨fl_11_1, Or.inl rfl⟩) rfl (cm_l h0 (by decide)) (cm_s h0 (by decide) rfl) rfl rfl ?_
  have h1 : Cm (up2 fs42 89 0 0) (wI M 89 0 0) := cm_I h0 (by decide)
  generalize (wI M 89 0 0) = M1 at h1 ⊢
  refine a_iload_n dX11_alike_5 rfl rfl ?_
  refine a_callS (As := [.int 3]) (st := []) (bc := 0) (bs := 0) (mc := 0) (ms := 0) false dX11_alike_6 mw_X11_isSlot rfl (Or.inl ⟨rfl, ml_X11_271⟩) sm_X11_isSlot rfl (Nat.le_of_ble_eq_true rfl) (z2092_X11_isSlot (fr := fr) y hb_y h1) (fun v M2 hq => ?_)
  obtain ⟨rfl, h2⟩ := hq
  show AW X _ 0 0 9 _ [.int 1] _ _
  refine a_if_eq 19 dX11_alike_9 (by decide) (fun c => absurd c (by decide)) (fun _ => ?_)
  refine a_iload_n dX11_alike_12 rfl rfl ?_
  refine a_callS (As := [.int y]) (st := []) (bc := 0) (bs := 0) (mc := 0) (ms := 0) false dX11_alike_13 mw_X11_isSlot rfl (Or.inl ⟨rfl, ml_X11_271⟩) sm_X11_isSlot rfl (Nat.le_of_ble_eq_true rfl) (z2082_X11_isSlot (fr := fr) y hb_y h2) (fun v M3 hq => ?_)
  obtain ⟨rfl, h3⟩ := hq
  show AW X _ 0 0 16 _ [.int 0] _ _
  refine a_if_ne 22 dX11_alike_16 (by decide) (fun c => absurd (by decide) c) (fun _ => ?_)
  refine a_bipush (v := (-2)) dX11_alike_19 (by decide) ?_
  exact a_iret dX11_alike_21 rfl ⟨by first | rfl | decide +kernel | simp [*], trivial⟩
set_option maxHeartbeats 4000000 in
set_option maxRecDepth 100000 in
theorem q_alike_3 {X : Nat × (Nat → Int32)} {fr : Nat} {M : Mem} (y : Int32) (hv_y : ¬ (y < 0 ∨ 4 ≤ y)) (h0 : Cm fs42 M) : AM yX11_alike cX11_alike 5 (some .int) true (fr + 12) 0 0 X [.ref 89, .int 3, .int y] M (fun v M1 => v = some (.int (-5)) ∧ True) := by
  refine AM.of false (by decide +kernel) (by intro h; cases h) (Nat.le_of_ble_eq_true rfl) ?_
  show AW X (RX11, cX11_alike, 5, (some .int), false, true, fr + 12) 0 0 0 [(0, .ref 89), (1, .int 3), (2, .int y)] [] M _
  refine a_aload_n dX11_alike_0 rfl rfl ?_
  refine a_iconst (v := 0) dX11_alike_1 (by decide) ?_
  refine a_putI dX11_alike_2 (Or.inl ⟨fl_11_1, Or.inl rfl⟩) rfl (cm_l h0 (by decide)) (cm_s h0 (by decide) rfl) rfl rfl ?_
  have h1 : Cm (up2 fs42 89 0 0) (wI M 89 0 0) := cm_I h0 (by decide)
  generalize (wI M 89 0 0) = M1 at h1 ⊢
  refine a_iload_n dX11_alike_5 rfl rfl ?_
  refine a_callS (As := [.int 3]) (st := []) (bc := 0) (bs := 0) (mc := 0) (ms := 0) false dX11_alike_6 mw_X11_isSlot rfl (Or.inl ⟨rfl, ml_X11_271⟩) sm_X11_isSlot rfl (Nat.le_of_ble_eq_true rfl) (z2093_X11_isSlot (fr := fr) y hv_y h1) (fun v M2 hq => ?_)
  obtain ⟨rfl, h2⟩ := hq
  show AW X _ 0 0 9 _ [.int 1] _ _
  refine a_if_eq 19 dX11_alike_9 (by decide) (fun c => absurd c (by decide)) (fun _ => ?_)
  refine a_iload_n dX11_alike_12 rfl rfl ?_
  refine a_callS (As := [.int y]) (st := []) (bc := 0) (bs := 0) (mc := 0) (ms := 0) false dX11_alike_13 mw_X11_isSlot rfl (Or.inl ⟨rfl, ml_X11_271⟩) sm_X11_isSlot rfl (Nat.le_of_ble_eq_true rfl) (z2084_X11_isSlot (fr := fr) y hv_y h2) (fun v M3 hq => ?_)
  obtain ⟨rfl, h3⟩ := hq
  show AW X _ 0 0 16 _ [.int 1] _ _
  refine a_if_ne 22 dX11_alike_16 (by decide) (fun _ => ?_) (fun c => absurd c (by decide))
  refine a_aload_n dX11_alike_22 rfl rfl ?_
  refine a_iload_n dX11_alike_23 rfl rfl ?_
  refine a_callV (As := [.int 3]) (st := []) (a := 89) (ci := 11) (bc := 0) (bs := 0) (mc := 0) (ms := 0) false dX11_alike_24 mw_X11_isEmpty rfl (Or.inl ⟨rfl, ml_X11_343⟩) im_X11_isEmpty se_X11_isEmpty (by decide) (cm_l h3 (by decide)) (cm_s h3 (by decide) rfl) rfl (Nat.le_of_ble_eq_true rfl) (z2094_X11_isEmpty (fr := fr) y hv_y h3) (fun v M4 hq => ?_)
  obtain ⟨rfl, h4⟩ := hq
  show AW X _ 0 0 27 _ [.int 1] _ _
  refine a_if_ne 38 dX11_alike_27 (by decide) (fun _ => ?_) (fun c => absurd c (by decide))
  refine a_bipush (v := (-5)) dX11_alike_38 (by decide) ?_
  exact a_iret dX11_alike_40 rfl ⟨by first | rfl | decide +kernel | simp [*], trivial⟩
set_option maxHeartbeats 4000000 in
set_option maxRecDepth 100000 in
theorem z2095_X11_begins0 {X : Nat × (Nat → Int32)} {fr : Nat} {M : Mem}  (h0 : Cm (up2 fs42 89 0 0) M) : AM yX11_begins0 cX11_begins0 2 none true (fr + 11) 0 0 X [.ref 89, .int 0] M (fun v M1 => v = none ∧ Cm (up2 (up2 (up2 (up2 fs42 89 0 0) 89 48 0) 89 49 0) 89 50 (-1)) M1) := by
  refine AM.of false (by decide +kernel) (by intro h; cases h) (Nat.le_of_ble_eq_true rfl) ?_
  show AW X (RX11, cX11_begins0, 2, none, false, true, fr + 11) 0 0 0 [(0, .ref 89), (1, .int 0)] [] M _
  refine a_aload_n dX11_begins0_0 rfl rfl ?_
  refine a_iconst (v := 0) dX11_begins0_1 (by decide) ?_
  refine a_putI dX11_begins0_2 (Or.inl ⟨fl_11_361, Or.inl rfl⟩) rfl (cm_l h0 (by decide)) (cm_s h0 (by decide) rfl) rfl rfl ?_
  have h1 : Cm (up2 (up2 fs42 89 0 0) 89 48 0) (wI M 89 48 0) := cm_I h0 (by decide)
  generalize (wI M 89 48 0) = M1 at h1 ⊢
  refine a_aload_n dX11_begins0_5 rfl rfl ?_
  refine a_iload_n dX11_begins0_6 rfl rfl ?_
  refine a_putI dX11_begins0_7 (Or.inl ⟨fl_11_364, Or.inl rfl⟩) rfl (cm_l h1 (by decide)) (cm_s h1 (by decide) rfl) rfl rfl ?_
  have h2 : Cm (up2 (up2 (up2 fs42 89 0 0) 89 48 0) 89 49 0) (wI M1 89 49 0) := cm_I h1 (by decide)
  generalize (wI M1 89 49 0) = M2 at h2 ⊢
  refine a_aload_n dX11_begins0_10 rfl rfl ?_
  refine a_iconst (v := (-1)) dX11_begins0_11 (by decide) ?_
  refine a_putI dX11_begins0_12 (Or.inl ⟨fl_11_367, Or.inl rfl⟩) rfl (cm_l h2 (by decide)) (cm_s h2 (by decide) rfl) rfl rfl ?_
  have h3 : Cm (up2 (up2 (up2 (up2 fs42 89 0 0) 89 48 0) 89 49 0) 89 50 (-1)) (wI M2 89 50 (-1)) := cm_I h2 (by decide)
  generalize (wI M2 89 50 (-1)) = M3 at h3 ⊢
  exact a_vret dX11_begins0_15 rfl ⟨rfl, h3⟩
set_option maxHeartbeats 4000000 in
set_option maxRecDepth 100000 in
theorem z2098_X11_tells {X : Nat × (Nat → Int32)} {fr : Nat} {M : Mem}  (h0 : Cm (up2 (up2 (up2 (up2 fs42 89 0 0) 89 48 0) 89 49 0) 89 50 (-1)) M) : AM yX11_tells cX11_tells 2 none true (fr + 9) 0 0 X [.ref 89, .int 112] M (fun v M1 => v = none ∧ Cm (up2 (up2 (up2 (up2 (up2 (up2 fs42 89 0 0) 89 48 0) 89 49 0) 89 50 (-1)) 89 50 112) 89 48 1) M1) := by
  refine AM.of false (by decide +kernel) (by intro h; cases h) (Nat.le_of_ble_eq_true rfl) ?_
  show AW X (RX11, cX11_tells, 2, none, false, true, fr + 9) 0 0 0 [(0, .ref 89), (1, .int 112)] [] M _
  refine a_aload_n dX11_tells_0 rfl rfl ?_
  refine a_get (v := .int 0) dX11_tells_1 fl_11_361 (cm_l h0 (by decide)) (cm_s h0 (by decide) rfl) (cm_gi h0 rfl (by decide) (by first | decide +kernel | rfl)) ?_
  refine a_aload_n dX11_tells_4 rfl rfl ?_
  refine a_get (v := .int 0) dX11_tells_5 fl_11_364 (cm_l h0 (by decide)) (cm_s h0 (by decide) rfl) (cm_gi h0 rfl (by decide) (by first | decide +kernel | rfl)) ?_
  refine a_icmp_ne 16 dX11_tells_8 (by decide) (fun c => absurd (by decide) c) (fun _ => ?_)
  refine a_aload_n dX11_tells_11 rfl rfl ?_
  refine a_iload_n dX11_tells_12 rfl rfl ?_
  refine a_putI dX11_tells_13 (Or.inl ⟨fl_11_367, Or.inl rfl⟩) rfl (cm_l h0 (by decide)) (cm_s h0 (by decide) rfl) rfl rfl ?_
  have h1 : Cm (up2 (up2 (up2 (up2 (up2 fs42 89 0 0) 89 48 0) 89 49 0) 89 50 (-1)) 89 50 112) (wI M 89 50 112) := cm_I h0 (by decide)
  generalize (wI M 89 50 112) = M1 at h1 ⊢
  refine a_aload_n dX11_tells_16 rfl rfl ?_
  refine a_dup dX11_tells_17 rfl ?_
  refine a_get (v := .int 0) dX11_tells_18 fl_11_361 (cm_l h1 (by decide)) (cm_s h1 (by decide) rfl) (cm_gi h1 rfl (by decide) (by first | decide +kernel | rfl)) ?_
  refine a_iconst (v := 1) dX11_tells_21 (by decide) ?_
  refine a_iadd dX11_tells_22 ?_
  refine a_st (st2 := [.int 1, .ref 89]) (by first | decide +kernel | (refine congrArg (fun z => Value.int z :: [.ref 89]) ?_; decide +kernel) | (refine congrArg (fun z => Value.long z :: [.ref 89]) ?_; decide +kernel)) ?_
  refine a_putI dX11_tells_23 (Or.inl ⟨fl_11_361, Or.inl rfl⟩) rfl (cm_l h1 (by decide)) (cm_s h1 (by decide) rfl) rfl rfl ?_
  have h2 : Cm (up2 (up2 (up2 (up2 (up2 (up2 fs42 89 0 0) 89 48 0) 89 49 0) 89 50 (-1)) 89 50 112) 89 48 1) (wI M1 89 48 1) := cm_I h1 (by decide)
  generalize (wI M1 89 48 1) = M2 at h2 ⊢
  exact a_vret dX11_tells_26 rfl ⟨rfl, h2⟩
set_option maxHeartbeats 4000000 in
set_option maxRecDepth 100000 in
theorem z2097_X11_tellsWord {X : Nat × (Nat → Int32)} {fr : Nat} {M : Mem}  (h0 : Cm (up2 (up2 (up2 (up2 fs42 89 0 0) 89 48 0) 89 49 0) 89 50 (-1)) M) : AM yX11_tellsWord cX11_tellsWord 4 none true (fr + 10) 0 0 X [.ref 89, .int 0] M (fun v M1 => v = none ∧ Cm (up2 (up2 (up2 (up2 (up2 (up2 fs42 89 0 0) 89 48 0) 89 49 0) 89 50 (-1)) 89 50 112) 89 48 1) M1) := by
  refine AM.of false (by decide +kernel) (by intro h; cases h) (Nat.le_of_ble_eq_true rfl) ?_
  show AW X (RX11, cX11_tellsWord, 4, none, false, true, fr + 10) 0 0 0 [(0, .ref 89), (1, .int 0)] [] M _
  refine a_aload_n dX11_tellsWord_0 rfl rfl ?_
  refine a_get (v := .int 0) dX11_tellsWord_1 fl_11_361 (cm_l h0 (by decide)) (cm_s h0 (by decide) rfl) (cm_gi h0 rfl (by decide) (by first | decide +kernel | rfl)) ?_
  refine a_if_le 13 dX11_tellsWord_4 (by decide) (fun _ => ?_) (fun c => absurd (by decide) c)
  refine a_iconst (v := 0) dX11_tellsWord_13 (by decide) ?_
  refine a_istore_n dX11_tellsWord_14 rfl (Nat.le_of_ble_eq_true rfl) (lv2 := [(2, .int 0), (0, .ref 89), (1, .int 0)]) rfl ?_
  refine a_iconst (v := 0) dX11_tellsWord_15 (by decide) ?_
  refine a_istore_n dX11_tellsWord_16 rfl (Nat.le_of_ble_eq_true rfl) (lv2 := [(3, .int 0), (2, .int 0), (0, .ref 89), (1, .int 0)]) rfl ?_
  refine a_iload_n dX11_tellsWord_17 rfl rfl ?_
  refine a_iload_n dX11_tellsWord_18 rfl rfl ?_
  refine a_icmp_ge 42 dX11_tellsWord_19 (by decide) (fun _ => ?_) (fun c => absurd (by decide) c)
  refine a_ldcB dX11_tellsWord_42 rfl ?_
  refine a_iload_n dX11_tellsWord_44 rfl rfl ?_
  refine a_callT (As := [.int 0]) (st := []) (i := 1) (bc := 0) (bs := 0) (mc := 0) (ms := 0) dX11_tellsWord_45 mw_J0_charAt_5068e rfl ml_X11_194 im_J0_charAt_5068e se_J0_charAt_5068e (by decide) rfl (Nat.le_of_ble_eq_true rfl) (k_charAt1 (fr := fr + 6) (j := 0) (by unfold vp_in; decide +kernel)) (fun v M1 hq => ?_)
  obtain ⟨rfl, hM1⟩ := hq
  rw [hM1]
  clear hM1 M1
  refine a_st (st2 := [.int 112]) (by first | decide +kernel | (refine congrArg (fun z => Value.int z :: []) ?_; decide +kernel) | (refine congrArg (fun z => Value.long z :: []) ?_; decide +kernel)) ?_
  refine a_bipush (v := 32) dX11_tellsWord_48 (by decide) ?_
  refine a_icmp_eq 69 dX11_tellsWord_50 (by decide) (fun c => absurd c (by decide)) (fun _ => ?_)
  refine a_aload_n dX11_tellsWord_53 rfl rfl ?_
  refine a_ldcB dX11_tellsWord_54 rfl ?_
  refine a_iload_n dX11_tellsWord_56 rfl rfl ?_
  refine a_callT (As := [.int 0]) (st := [.ref 89]) (i := 1) (bc := 0) (bs := 0) (mc := 0) (ms := 0) dX11_tellsWord_57 mw_J0_charAt_5068e rfl ml_X11_194 im_J0_charAt_5068e se_J0_charAt_5068e (by decide) rfl (Nat.le_of_ble_eq_true rfl) (k_charAt1 (fr := fr + 6) (j := 0) (by unfold vp_in; decide +kernel)) (fun v M1 hq => ?_)
  obtain ⟨rfl, hM1⟩ := hq
  rw [hM1]
  clear hM1 M1
  refine a_st (st2 := [.int 112, .ref 89]) (by first | decide +kernel | (refine congrArg (fun z => Value.int z :: [.ref 89]) ?_; decide +kernel) | (refine congrArg (fun z => Value.long z :: [.ref 89]) ?_; decide +kernel)) ?_
  refine a_callV (As := [.int 112]) (st := []) (a := 89) (ci := 11) (bc := 0) (bs := 0) (mc := 0) (ms := 0) false dX11_tellsWord_60 mw_X11_tells rfl (Or.inl ⟨rfl, ml_X11_370⟩) im_X11_tells se_X11_tells (by decide) (cm_l h0 (by decide)) (cm_s h0 (by decide) rfl) rfl (Nat.le_of_ble_eq_true rfl) (z2098_X11_tells (fr := fr)  h0) (fun v M1 hq => ?_)
  obtain ⟨rfl, h1⟩ := hq
  refine a_iinc (v := 1) dX11_tellsWord_63 rfl (by decide) (Nat.le_of_ble_eq_true rfl) (lv2 := [(2, .int 1), (3, .int 0), (0, .ref 89), (1, .int 0)]) rfl ?_
  refine a_goto 42 dX11_tellsWord_66 (by decide) ?_
  refine a_ldcB dX11_tellsWord_42 rfl ?_
  refine a_iload_n dX11_tellsWord_44 rfl rfl ?_
  refine a_callT (As := [.int 1]) (st := []) (i := 1) (bc := 0) (bs := 0) (mc := 0) (ms := 0) dX11_tellsWord_45 mw_J0_charAt_5068e rfl ml_X11_194 im_J0_charAt_5068e se_J0_charAt_5068e (by decide) rfl (Nat.le_of_ble_eq_true rfl) (k_charAt1 (fr := fr + 6) (j := 1) (by unfold vp_in; decide +kernel)) (fun v M1 hq => ?_)
  obtain ⟨rfl, hM1⟩ := hq
  rw [hM1]
  clear hM1 M1
  refine a_st (st2 := [.int 32]) (by first | decide +kernel | (refine congrArg (fun z => Value.int z :: []) ?_; decide +kernel) | (refine congrArg (fun z => Value.long z :: []) ?_; decide +kernel)) ?_
  refine a_bipush (v := 32) dX11_tellsWord_48 (by decide) ?_
  refine a_icmp_eq 69 dX11_tellsWord_50 (by decide) (fun _ => ?_) (fun c => absurd (by decide) c)
  exact a_vret dX11_tellsWord_69 rfl ⟨rfl, h1⟩
set_option maxHeartbeats 4000000 in
set_option maxRecDepth 100000 in
theorem z2096_X11_tellsFormula {X : Nat × (Nat → Int32)} {fr : Nat} {M : Mem}  (h0 : Cm (up2 (up2 (up2 (up2 fs42 89 0 0) 89 48 0) 89 49 0) 89 50 (-1)) M) : AM yX11_tellsFormula cX11_tellsFormula 2 none true (fr + 11) 0 0 X [.ref 89, .int 0] M (fun v M1 => v = none ∧ Cm (up2 (up2 (up2 (up2 (up2 (up2 fs42 89 0 0) 89 48 0) 89 49 0) 89 50 (-1)) 89 50 112) 89 48 1) M1) := by
  refine AM.of false (by decide +kernel) (by intro h; cases h) (Nat.le_of_ble_eq_true rfl) ?_
  show AW X (RX11, cX11_tellsFormula, 2, none, false, true, fr + 11) 0 0 0 [(0, .ref 89), (1, .int 0)] [] M _
  refine a_aload_n dX11_tellsFormula_0 rfl rfl ?_
  refine a_aload_n dX11_tellsFormula_1 rfl rfl ?_
  refine a_get (v := .ref 90) dX11_tellsFormula_2 fl_11_13 (cm_l h0 (by decide)) (cm_s h0 (by decide) rfl) (cm_g h0 rfl (by decide +kernel)) ?_
  refine a_iload_n dX11_tellsFormula_5 rfl rfl ?_
  refine a_iaload dX11_tellsFormula_6 (cm_l h0 (by decide)) (cm_s h0 (by decide) rfl) (by unfold vp_in; decide +kernel) ?_
  rw [show M.2.2.1 90 (Int32.toNatClampNeg 0) = 0 from (cm_i h0 (by decide)).trans (by first | decide +kernel | rfl)]
  refine a_callV (As := [.int 0]) (st := []) (a := 89) (ci := 11) (bc := 0) (bs := 0) (mc := 0) (ms := 0) false dX11_tellsFormula_7 mw_X11_tellsWord rfl (Or.inl ⟨rfl, ml_X11_373⟩) im_X11_tellsWord se_X11_tellsWord (by decide) (cm_l h0 (by decide)) (cm_s h0 (by decide) rfl) rfl (Nat.le_of_ble_eq_true rfl) (z2097_X11_tellsWord (fr := fr)  h0) (fun v M1 hq => ?_)
  obtain ⟨rfl, h1⟩ := hq
  refine a_aload_n dX11_tellsFormula_10 rfl rfl ?_
  refine a_get (v := .ref 91) dX11_tellsFormula_11 fl_11_17 (cm_l h1 (by decide)) (cm_s h1 (by decide) rfl) (cm_g h1 rfl (by decide +kernel)) ?_
  refine a_iload_n dX11_tellsFormula_14 rfl rfl ?_
  refine a_iaload dX11_tellsFormula_15 (cm_l h1 (by decide)) (cm_s h1 (by decide) rfl) (by unfold vp_in; decide +kernel) ?_
  rw [show M1.2.2.1 91 (Int32.toNatClampNeg 0) = (-1) from (cm_i h1 (by decide)).trans (by first | decide +kernel | rfl)]
  refine a_iconst (v := (-1)) dX11_tellsFormula_16 (by decide) ?_
  refine a_icmp_ne 21 dX11_tellsFormula_17 (by decide) (fun c => absurd (by decide) c) (fun _ => ?_)
  exact a_vret dX11_tellsFormula_20 rfl ⟨rfl, h1⟩
set_option maxHeartbeats 4000000 in
set_option maxRecDepth 100000 in
theorem q_goalByte_0 {X : Nat × (Nat → Int32)} {fr : Nat} {M : Mem}  (h0 : Cm fs42 M) : AM yX11_goalByte cX11_goalByte 2 (some .int) true (fr + 12) 0 0 X [.ref 89, .int 0] M (fun v M1 => v = some (.int 112) ∧ True) := by
  refine AM.of false (by decide +kernel) (by intro h; cases h) (Nat.le_of_ble_eq_true rfl) ?_
  show AW X (RX11, cX11_goalByte, 2, (some .int), false, true, fr + 12) 0 0 0 [(0, .ref 89), (1, .int 0)] [] M _
  refine a_aload_n dX11_goalByte_0 rfl rfl ?_
  refine a_iconst (v := 0) dX11_goalByte_1 (by decide) ?_
  refine a_putI dX11_goalByte_2 (Or.inl ⟨fl_11_1, Or.inl rfl⟩) rfl (cm_l h0 (by decide)) (cm_s h0 (by decide) rfl) rfl rfl ?_
  have h1 : Cm (up2 fs42 89 0 0) (wI M 89 0 0) := cm_I h0 (by decide)
  generalize (wI M 89 0 0) = M1 at h1 ⊢
  refine a_iload_n dX11_goalByte_5 rfl rfl ?_
  refine a_if_ge 12 dX11_goalByte_6 (by decide) (fun _ => ?_) (fun c => absurd (by decide) c)
  refine a_aload_n dX11_goalByte_12 rfl rfl ?_
  refine a_iload_n dX11_goalByte_13 rfl rfl ?_
  refine a_callV (As := [.int 0]) (st := []) (a := 89) (ci := 11) (bc := 0) (bs := 0) (mc := 0) (ms := 0) false dX11_goalByte_14 mw_X11_begins0 rfl (Or.inl ⟨rfl, ml_X11_389⟩) im_X11_begins0 se_X11_begins0 (by decide) (cm_l h1 (by decide)) (cm_s h1 (by decide) rfl) rfl (Nat.le_of_ble_eq_true rfl) (z2095_X11_begins0 (fr := fr)  h1) (fun v M2 hq => ?_)
  obtain ⟨rfl, h2⟩ := hq
  refine a_aload_n dX11_goalByte_17 rfl rfl ?_
  refine a_aload_n dX11_goalByte_18 rfl rfl ?_
  refine a_get (v := .int 0) dX11_goalByte_19 fl_11_134 (cm_l h2 (by decide)) (cm_s h2 (by decide) rfl) (cm_gi h2 rfl (by decide) (by first | decide +kernel | rfl)) ?_
  refine a_callV (As := [.int 0]) (st := []) (a := 89) (ci := 11) (bc := 0) (bs := 0) (mc := 0) (ms := 0) false dX11_goalByte_22 mw_X11_tellsFormula rfl (Or.inl ⟨rfl, ml_X11_376⟩) im_X11_tellsFormula se_X11_tellsFormula (by decide) (cm_l h2 (by decide)) (cm_s h2 (by decide) rfl) rfl (Nat.le_of_ble_eq_true rfl) (z2096_X11_tellsFormula (fr := fr)  h2) (fun v M3 hq => ?_)
  obtain ⟨rfl, h3⟩ := hq
  refine a_aload_n dX11_goalByte_25 rfl rfl ?_
  refine a_get (v := .int 112) dX11_goalByte_26 fl_11_367 (cm_l h3 (by decide)) (cm_s h3 (by decide) rfl) (cm_gi h3 rfl (by decide) (by first | decide +kernel | rfl)) ?_
  exact a_iret dX11_goalByte_29 rfl ⟨by first | rfl | decide +kernel | simp [*], trivial⟩
set_option maxHeartbeats 4000000 in
set_option maxRecDepth 100000 in
theorem q_goalByte_n {X : Nat × (Nat → Int32)} {fr : Nat} {M : Mem} (n : Int32) (hn : n < 0) (h0 : Cm fs42 M) : AM yX11_goalByte cX11_goalByte 2 (some .int) true (fr + 12) 0 0 X [.ref 89, .int n] M (fun v M1 => v = some (.int (-3)) ∧ True) := by
  refine AM.of false (by decide +kernel) (by intro h; cases h) (Nat.le_of_ble_eq_true rfl) ?_
  show AW X (RX11, cX11_goalByte, 2, (some .int), false, true, fr + 12) 0 0 0 [(0, .ref 89), (1, .int n)] [] M _
  refine a_aload_n dX11_goalByte_0 rfl rfl ?_
  refine a_iconst (v := 0) dX11_goalByte_1 (by decide) ?_
  refine a_putI dX11_goalByte_2 (Or.inl ⟨fl_11_1, Or.inl rfl⟩) rfl (cm_l h0 (by decide)) (cm_s h0 (by decide) rfl) rfl rfl ?_
  have h1 : Cm (up2 fs42 89 0 0) (wI M 89 0 0) := cm_I h0 (by decide)
  generalize (wI M 89 0 0) = M1 at h1 ⊢
  refine a_iload_n dX11_goalByte_5 rfl rfl ?_
  refine a_if_ge 12 dX11_goalByte_6 (by decide) (fun c => absurd c (Int32.not_le.mpr hn)) (fun _ => ?_)
  refine a_bipush (v := (-3)) dX11_goalByte_9 (by decide) ?_
  exact a_iret dX11_goalByte_11 rfl ⟨by first | rfl | decide +kernel | simp [*], trivial⟩
set_option maxHeartbeats 4000000 in
set_option maxRecDepth 100000 in
theorem z2099_X11_begins0 {X : Nat × (Nat → Int32)} {fr : Nat} {M : Mem} (n : Int32) (hn : 0 < n) (h0 : Cm (up2 fs42 89 0 0) M) : AM yX11_begins0 cX11_begins0 2 none true (fr + 11) 0 0 X [.ref 89, .int n] M (fun v M1 => v = none ∧ Cm (up2 (up2 (up2 (up2 fs42 89 0 0) 89 48 0) 89 49 n) 89 50 (-1)) M1) := by
  refine AM.of false (by decide +kernel) (by intro h; cases h) (Nat.le_of_ble_eq_true rfl) ?_
  show AW X (RX11, cX11_begins0, 2, none, false, true, fr + 11) 0 0 0 [(0, .ref 89), (1, .int n)] [] M _
  refine a_aload_n dX11_begins0_0 rfl rfl ?_
  refine a_iconst (v := 0) dX11_begins0_1 (by decide) ?_
  refine a_putI dX11_begins0_2 (Or.inl ⟨fl_11_361, Or.inl rfl⟩) rfl (cm_l h0 (by decide)) (cm_s h0 (by decide) rfl) rfl rfl ?_
  have h1 : Cm (up2 (up2 fs42 89 0 0) 89 48 0) (wI M 89 48 0) := cm_I h0 (by decide)
  generalize (wI M 89 48 0) = M1 at h1 ⊢
  refine a_aload_n dX11_begins0_5 rfl rfl ?_
  refine a_iload_n dX11_begins0_6 rfl rfl ?_
  refine a_putI dX11_begins0_7 (Or.inl ⟨fl_11_364, Or.inl rfl⟩) rfl (cm_l h1 (by decide)) (cm_s h1 (by decide) rfl) rfl rfl ?_
  have h2 : Cm (up2 (up2 (up2 fs42 89 0 0) 89 48 0) 89 49 n) (wI M1 89 49 n) := cm_I h1 (by decide)
  generalize (wI M1 89 49 n) = M2 at h2 ⊢
  refine a_aload_n dX11_begins0_10 rfl rfl ?_
  refine a_iconst (v := (-1)) dX11_begins0_11 (by decide) ?_
  refine a_putI dX11_begins0_12 (Or.inl ⟨fl_11_367, Or.inl rfl⟩) rfl (cm_l h2 (by decide)) (cm_s h2 (by decide) rfl) rfl rfl ?_
  have h3 : Cm (up2 (up2 (up2 (up2 fs42 89 0 0) 89 48 0) 89 49 n) 89 50 (-1)) (wI M2 89 50 (-1)) := cm_I h2 (by decide)
  generalize (wI M2 89 50 (-1)) = M3 at h3 ⊢
  exact a_vret dX11_begins0_15 rfl ⟨rfl, h3⟩
set_option maxHeartbeats 4000000 in
set_option maxRecDepth 100000 in
theorem z2102_X11_tells {X : Nat × (Nat → Int32)} {fr : Nat} {M : Mem} (n : Int32) (hn : 0 < n) (h0 : Cm (up2 (up2 (up2 (up2 fs42 89 0 0) 89 48 0) 89 49 n) 89 50 (-1)) M) : AM yX11_tells cX11_tells 2 none true (fr + 9) 0 0 X [.ref 89, .int 112] M (fun v M1 => v = none ∧ Cm (up2 (up2 (up2 (up2 (up2 fs42 89 0 0) 89 48 0) 89 49 n) 89 50 (-1)) 89 48 1) M1) := by
  refine AM.of false (by decide +kernel) (by intro h; cases h) (Nat.le_of_ble_eq_true rfl) ?_
  show AW X (RX11, cX11_tells, 2, none, false, true, fr + 9) 0 0 0 [(0, .ref 89), (1, .int 112)] [] M _
  refine a_aload_n dX11_tells_0 rfl rfl ?_
  refine a_get (v := .int 0) dX11_tells_1 fl_11_361 (cm_l h0 (by decide)) (cm_s h0 (by decide) rfl) (cm_gi h0 rfl (by decide) (by first | decide +kernel | rfl)) ?_
  refine a_aload_n dX11_tells_4 rfl rfl ?_
  refine a_get (v := .int n) dX11_tells_5 fl_11_364 (cm_l h0 (by decide)) (cm_s h0 (by decide) rfl) (cm_gi h0 rfl (by decide) (by first | decide +kernel | rfl)) ?_
  refine a_icmp_ne 16 dX11_tells_8 (by decide) (fun _ => ?_) (fun c => absurd c (ne0 hn))
  refine a_aload_n dX11_tells_16 rfl rfl ?_
  refine a_dup dX11_tells_17 rfl ?_
  refine a_get (v := .int 0) dX11_tells_18 fl_11_361 (cm_l h0 (by decide)) (cm_s h0 (by decide) rfl) (cm_gi h0 rfl (by decide) (by first | decide +kernel | rfl)) ?_
  refine a_iconst (v := 1) dX11_tells_21 (by decide) ?_
  refine a_iadd dX11_tells_22 ?_
  refine a_st (st2 := [.int 1, .ref 89]) (by first | decide +kernel | (refine congrArg (fun z => Value.int z :: [.ref 89]) ?_; decide +kernel) | (refine congrArg (fun z => Value.long z :: [.ref 89]) ?_; decide +kernel)) ?_
  refine a_putI dX11_tells_23 (Or.inl ⟨fl_11_361, Or.inl rfl⟩) rfl (cm_l h0 (by decide)) (cm_s h0 (by decide) rfl) rfl rfl ?_
  have h1 : Cm (up2 (up2 (up2 (up2 (up2 fs42 89 0 0) 89 48 0) 89 49 n) 89 50 (-1)) 89 48 1) (wI M 89 48 1) := cm_I h0 (by decide)
  generalize (wI M 89 48 1) = M1 at h1 ⊢
  exact a_vret dX11_tells_26 rfl ⟨rfl, h1⟩
set_option maxHeartbeats 4000000 in
set_option maxRecDepth 100000 in
theorem z2101_X11_tellsWord {X : Nat × (Nat → Int32)} {fr : Nat} {M : Mem} (n : Int32) (hn : 0 < n) (h0 : Cm (up2 (up2 (up2 (up2 fs42 89 0 0) 89 48 0) 89 49 n) 89 50 (-1)) M) : AM yX11_tellsWord cX11_tellsWord 4 none true (fr + 10) 0 0 X [.ref 89, .int 0] M (fun v M1 => v = none ∧ Cm (up2 (up2 (up2 (up2 (up2 fs42 89 0 0) 89 48 0) 89 49 n) 89 50 (-1)) 89 48 1) M1) := by
  refine AM.of false (by decide +kernel) (by intro h; cases h) (Nat.le_of_ble_eq_true rfl) ?_
  show AW X (RX11, cX11_tellsWord, 4, none, false, true, fr + 10) 0 0 0 [(0, .ref 89), (1, .int 0)] [] M _
  refine a_aload_n dX11_tellsWord_0 rfl rfl ?_
  refine a_get (v := .int 0) dX11_tellsWord_1 fl_11_361 (cm_l h0 (by decide)) (cm_s h0 (by decide) rfl) (cm_gi h0 rfl (by decide) (by first | decide +kernel | rfl)) ?_
  refine a_if_le 13 dX11_tellsWord_4 (by decide) (fun _ => ?_) (fun c => absurd (by decide) c)
  refine a_iconst (v := 0) dX11_tellsWord_13 (by decide) ?_
  refine a_istore_n dX11_tellsWord_14 rfl (Nat.le_of_ble_eq_true rfl) (lv2 := [(2, .int 0), (0, .ref 89), (1, .int 0)]) rfl ?_
  refine a_iconst (v := 0) dX11_tellsWord_15 (by decide) ?_
  refine a_istore_n dX11_tellsWord_16 rfl (Nat.le_of_ble_eq_true rfl) (lv2 := [(3, .int 0), (2, .int 0), (0, .ref 89), (1, .int 0)]) rfl ?_
  refine a_iload_n dX11_tellsWord_17 rfl rfl ?_
  refine a_iload_n dX11_tellsWord_18 rfl rfl ?_
  refine a_icmp_ge 42 dX11_tellsWord_19 (by decide) (fun _ => ?_) (fun c => absurd (by decide) c)
  refine a_ldcB dX11_tellsWord_42 rfl ?_
  refine a_iload_n dX11_tellsWord_44 rfl rfl ?_
  refine a_callT (As := [.int 0]) (st := []) (i := 1) (bc := 0) (bs := 0) (mc := 0) (ms := 0) dX11_tellsWord_45 mw_J0_charAt_5068e rfl ml_X11_194 im_J0_charAt_5068e se_J0_charAt_5068e (by decide) rfl (Nat.le_of_ble_eq_true rfl) (k_charAt1 (fr := fr + 6) (j := 0) (by unfold vp_in; decide +kernel)) (fun v M1 hq => ?_)
  obtain ⟨rfl, hM1⟩ := hq
  rw [hM1]
  clear hM1 M1
  refine a_st (st2 := [.int 112]) (by first | decide +kernel | (refine congrArg (fun z => Value.int z :: []) ?_; decide +kernel) | (refine congrArg (fun z => Value.long z :: []) ?_; decide +kernel)) ?_
  refine a_bipush (v := 32) dX11_tellsWord_48 (by decide) ?_
  refine a_icmp_eq 69 dX11_tellsWord_50 (by decide) (fun c => absurd c (by decide)) (fun _ => ?_)
  refine a_aload_n dX11_tellsWord_53 rfl rfl ?_
  refine a_ldcB dX11_tellsWord_54 rfl ?_
  refine a_iload_n dX11_tellsWord_56 rfl rfl ?_
  refine a_callT (As := [.int 0]) (st := [.ref 89]) (i := 1) (bc := 0) (bs := 0) (mc := 0) (ms := 0) dX11_tellsWord_57 mw_J0_charAt_5068e rfl ml_X11_194 im_J0_charAt_5068e se_J0_charAt_5068e (by decide) rfl (Nat.le_of_ble_eq_true rfl) (k_charAt1 (fr := fr + 6) (j := 0) (by unfold vp_in; decide +kernel)) (fun v M1 hq => ?_)
  obtain ⟨rfl, hM1⟩ := hq
  rw [hM1]
  clear hM1 M1
  refine a_st (st2 := [.int 112, .ref 89]) (by first | decide +kernel | (refine congrArg (fun z => Value.int z :: [.ref 89]) ?_; decide +kernel) | (refine congrArg (fun z => Value.long z :: [.ref 89]) ?_; decide +kernel)) ?_
  refine a_callV (As := [.int 112]) (st := []) (a := 89) (ci := 11) (bc := 0) (bs := 0) (mc := 0) (ms := 0) false dX11_tellsWord_60 mw_X11_tells rfl (Or.inl ⟨rfl, ml_X11_370⟩) im_X11_tells se_X11_tells (by decide) (cm_l h0 (by decide)) (cm_s h0 (by decide) rfl) rfl (Nat.le_of_ble_eq_true rfl) (z2102_X11_tells (fr := fr) n hn h0) (fun v M1 hq => ?_)
  obtain ⟨rfl, h1⟩ := hq
  refine a_iinc (v := 1) dX11_tellsWord_63 rfl (by decide) (Nat.le_of_ble_eq_true rfl) (lv2 := [(2, .int 1), (3, .int 0), (0, .ref 89), (1, .int 0)]) rfl ?_
  refine a_goto 42 dX11_tellsWord_66 (by decide) ?_
  refine a_ldcB dX11_tellsWord_42 rfl ?_
  refine a_iload_n dX11_tellsWord_44 rfl rfl ?_
  refine a_callT (As := [.int 1]) (st := []) (i := 1) (bc := 0) (bs := 0) (mc := 0) (ms := 0) dX11_tellsWord_45 mw_J0_charAt_5068e rfl ml_X11_194 im_J0_charAt_5068e se_J0_charAt_5068e (by decide) rfl (Nat.le_of_ble_eq_true rfl) (k_charAt1 (fr := fr + 6) (j := 1) (by unfold vp_in; decide +kernel)) (fun v M1 hq => ?_)
  obtain ⟨rfl, hM1⟩ := hq
  rw [hM1]
  clear hM1 M1
  refine a_st (st2 := [.int 32]) (by first | decide +kernel | (refine congrArg (fun z => Value.int z :: []) ?_; decide +kernel) | (refine congrArg (fun z => Value.long z :: []) ?_; decide +kernel)) ?_
  refine a_bipush (v := 32) dX11_tellsWord_48 (by decide) ?_
  refine a_icmp_eq 69 dX11_tellsWord_50 (by decide) (fun _ => ?_) (fun c => absurd (by decide) c)
  exact a_vret dX11_tellsWord_69 rfl ⟨rfl, h1⟩
set_option maxHeartbeats 4000000 in
set_option maxRecDepth 100000 in
theorem z2100_X11_tellsFormula {X : Nat × (Nat → Int32)} {fr : Nat} {M : Mem} (n : Int32) (hn : 0 < n) (h0 : Cm (up2 (up2 (up2 (up2 fs42 89 0 0) 89 48 0) 89 49 n) 89 50 (-1)) M) : AM yX11_tellsFormula cX11_tellsFormula 2 none true (fr + 11) 0 0 X [.ref 89, .int 0] M (fun v M1 => v = none ∧ Cm (up2 (up2 (up2 (up2 (up2 fs42 89 0 0) 89 48 0) 89 49 n) 89 50 (-1)) 89 48 1) M1) := by
  refine AM.of false (by decide +kernel) (by intro h; cases h) (Nat.le_of_ble_eq_true rfl) ?_
  show AW X (RX11, cX11_tellsFormula, 2, none, false, true, fr + 11) 0 0 0 [(0, .ref 89), (1, .int 0)] [] M _
  refine a_aload_n dX11_tellsFormula_0 rfl rfl ?_
  refine a_aload_n dX11_tellsFormula_1 rfl rfl ?_
  refine a_get (v := .ref 90) dX11_tellsFormula_2 fl_11_13 (cm_l h0 (by decide)) (cm_s h0 (by decide) rfl) (cm_g h0 rfl (by decide +kernel)) ?_
  refine a_iload_n dX11_tellsFormula_5 rfl rfl ?_
  refine a_iaload dX11_tellsFormula_6 (cm_l h0 (by decide)) (cm_s h0 (by decide) rfl) (by unfold vp_in; decide +kernel) ?_
  rw [show M.2.2.1 90 (Int32.toNatClampNeg 0) = 0 from (cm_i h0 (by decide)).trans (by first | decide +kernel | rfl)]
  refine a_callV (As := [.int 0]) (st := []) (a := 89) (ci := 11) (bc := 0) (bs := 0) (mc := 0) (ms := 0) false dX11_tellsFormula_7 mw_X11_tellsWord rfl (Or.inl ⟨rfl, ml_X11_373⟩) im_X11_tellsWord se_X11_tellsWord (by decide) (cm_l h0 (by decide)) (cm_s h0 (by decide) rfl) rfl (Nat.le_of_ble_eq_true rfl) (z2101_X11_tellsWord (fr := fr) n hn h0) (fun v M1 hq => ?_)
  obtain ⟨rfl, h1⟩ := hq
  refine a_aload_n dX11_tellsFormula_10 rfl rfl ?_
  refine a_get (v := .ref 91) dX11_tellsFormula_11 fl_11_17 (cm_l h1 (by decide)) (cm_s h1 (by decide) rfl) (cm_g h1 rfl (by decide +kernel)) ?_
  refine a_iload_n dX11_tellsFormula_14 rfl rfl ?_
  refine a_iaload dX11_tellsFormula_15 (cm_l h1 (by decide)) (cm_s h1 (by decide) rfl) (by unfold vp_in; decide +kernel) ?_
  rw [show M1.2.2.1 91 (Int32.toNatClampNeg 0) = (-1) from (cm_i h1 (by decide)).trans (by first | decide +kernel | rfl)]
  refine a_iconst (v := (-1)) dX11_tellsFormula_16 (by decide) ?_
  refine a_icmp_ne 21 dX11_tellsFormula_17 (by decide) (fun c => absurd (by decide) c) (fun _ => ?_)
  exact a_vret dX11_tellsFormula_20 rfl ⟨rfl, h1⟩
set_option maxHeartbeats 4000000 in
set_option maxRecDepth 100000 in
theorem q_goalByte_p {X : Nat × (Nat → Int32)} {fr : Nat} {M : Mem} (n : Int32) (hn : 0 < n) (h0 : Cm fs42 M) : AM yX11_goalByte cX11_goalByte 2 (some .int) true (fr + 12) 0 0 X [.ref 89, .int n] M (fun v M1 => v = some (.int (-1)) ∧ True) := by
  refine AM.of false (by decide +kernel) (by intro h; cases h) (Nat.le_of_ble_eq_true rfl) ?_
  show AW X (RX11, cX11_goalByte, 2, (some .int), false, true, fr + 12) 0 0 0 [(0, .ref 89), (1, .int n)] [] M _
  refine a_aload_n dX11_goalByte_0 rfl rfl ?_
  refine a_iconst (v := 0) dX11_goalByte_1 (by decide) ?_
  refine a_putI dX11_goalByte_2 (Or.inl ⟨fl_11_1, Or.inl rfl⟩) rfl (cm_l h0 (by decide)) (cm_s h0 (by decide) rfl) rfl rfl ?_
  have h1 : Cm (up2 fs42 89 0 0) (wI M 89 0 0) := cm_I h0 (by decide)
  generalize (wI M 89 0 0) = M1 at h1 ⊢
  refine a_iload_n dX11_goalByte_5 rfl rfl ?_
  refine a_if_ge 12 dX11_goalByte_6 (by decide) (fun _ => ?_) (fun c => absurd (Int32.not_lt.mp (not_neg hn)) c)
  refine a_aload_n dX11_goalByte_12 rfl rfl ?_
  refine a_iload_n dX11_goalByte_13 rfl rfl ?_
  refine a_callV (As := [.int n]) (st := []) (a := 89) (ci := 11) (bc := 0) (bs := 0) (mc := 0) (ms := 0) false dX11_goalByte_14 mw_X11_begins0 rfl (Or.inl ⟨rfl, ml_X11_389⟩) im_X11_begins0 se_X11_begins0 (by decide) (cm_l h1 (by decide)) (cm_s h1 (by decide) rfl) rfl (Nat.le_of_ble_eq_true rfl) (z2099_X11_begins0 (fr := fr) n hn h1) (fun v M2 hq => ?_)
  obtain ⟨rfl, h2⟩ := hq
  refine a_aload_n dX11_goalByte_17 rfl rfl ?_
  refine a_aload_n dX11_goalByte_18 rfl rfl ?_
  refine a_get (v := .int 0) dX11_goalByte_19 fl_11_134 (cm_l h2 (by decide)) (cm_s h2 (by decide) rfl) (cm_gi h2 rfl (by decide) (by first | decide +kernel | rfl)) ?_
  refine a_callV (As := [.int 0]) (st := []) (a := 89) (ci := 11) (bc := 0) (bs := 0) (mc := 0) (ms := 0) false dX11_goalByte_22 mw_X11_tellsFormula rfl (Or.inl ⟨rfl, ml_X11_376⟩) im_X11_tellsFormula se_X11_tellsFormula (by decide) (cm_l h2 (by decide)) (cm_s h2 (by decide) rfl) rfl (Nat.le_of_ble_eq_true rfl) (z2100_X11_tellsFormula (fr := fr) n hn h2) (fun v M3 hq => ?_)
  obtain ⟨rfl, h3⟩ := hq
  refine a_aload_n dX11_goalByte_25 rfl rfl ?_
  refine a_get (v := .int (-1)) dX11_goalByte_26 fl_11_367 (cm_l h3 (by decide)) (cm_s h3 (by decide) rfl) (cm_gi h3 rfl (by decide) (by first | decide +kernel | rfl)) ?_
  exact a_iret dX11_goalByte_29 rfl ⟨by first | rfl | decide +kernel | simp [*], trivial⟩
set_option maxHeartbeats 4000000 in
set_option maxRecDepth 100000 in
theorem q_bySide {X : Nat × (Nat → Int32)} {fr : Nat} {M : Mem} (w : Int32) (h0 : Cm fs42 M) : AM yX11_bySide cX11_bySide 2 (some .int) true (fr + 12) 0 0 X [.ref 89, .int w] M (fun v M1 => v = some (.int (if w < 0 then -2 else if w ≤ 1 then -5 else -2)) ∧ True) := by
  refine AM.of false (by decide +kernel) (by intro h; cases h) (Nat.le_of_ble_eq_true rfl) ?_
  show AW X (RX11, cX11_bySide, 2, (some .int), false, true, fr + 12) 0 0 0 [(0, .ref 89), (1, .int w)] [] M _
  refine a_aload_n dX11_bySide_0 rfl rfl ?_
  refine a_iconst (v := 0) dX11_bySide_1 (by decide) ?_
  refine a_putI dX11_bySide_2 (Or.inl ⟨fl_11_1, Or.inl rfl⟩) rfl (cm_l h0 (by decide)) (cm_s h0 (by decide) rfl) rfl rfl ?_
  have h1 : Cm (up2 fs42 89 0 0) (wI M 89 0 0) := cm_I h0 (by decide)
  generalize (wI M 89 0 0) = M1 at h1 ⊢
  refine a_iload_n dX11_bySide_5 rfl rfl ?_
  refine a_i2l dX11_bySide_6 ?_
  refine a_lconst (v := 0) dX11_bySide_7 (by decide) ?_
  refine a_lconst (v := 1) dX11_bySide_8 (by decide) ?_
  refine a_callS (As := [.long (Int32.toInt64 w), .long 0, .long 1]) (st := []) (bc := 0) (bs := 0) (mc := 0) (ms := 0) false dX11_bySide_9 mw_X11_isIn rfl (Or.inl ⟨rfl, ml_X11_180⟩) sm_X11_isIn rfl (Nat.le_of_ble_eq_true rfl) (k_isIn (fr := fr + 11) (Int32.toInt64 w) 0 1) (fun v M1 hq => ?_)
  obtain ⟨rfl, hM1⟩ := hq
  rw [hM1]
  clear hM1 M1
  refine a_st (st2 := [.int (if w < 0 then 0 else if w ≤ 1 then 1 else 0)]) (by exact congrArg (fun z => Value.int z :: []) (isin_w w 1)) ?_
  refine a_if_ne 18 dX11_bySide_12 (by decide) (fun c2 => ?_) (fun c2 => ?_)
  · refine a_aload_n dX11_bySide_18 rfl rfl ?_
    refine a_get (v := .ref 90) dX11_bySide_19 fl_11_13 (cm_l h1 (by decide)) (cm_s h1 (by decide) rfl) (cm_g h1 rfl (by decide +kernel)) ?_
    refine a_aload_n dX11_bySide_22 rfl rfl ?_
    refine a_get (v := .int 0) dX11_bySide_23 fl_11_134 (cm_l h1 (by decide)) (cm_s h1 (by decide) rfl) (cm_gi h1 rfl (by decide) (by first | decide +kernel | rfl)) ?_
    refine a_iaload dX11_bySide_26 (cm_l h1 (by decide)) (cm_s h1 (by decide) rfl) (by unfold vp_in; decide +kernel) ?_
    rw [show M1.2.2.1 90 (Int32.toNatClampNeg 0) = 0 from (cm_i h1 (by decide)).trans (by first | decide +kernel | rfl)]
    refine a_bipush (v := 11) dX11_bySide_27 (by decide) ?_
    refine a_icmp_eq 35 dX11_bySide_29 (by decide) (fun c => absurd c (by decide)) (fun _ => ?_)
    refine a_bipush (v := (-5)) dX11_bySide_32 (by decide) ?_
    exact a_iret dX11_bySide_34 rfl ⟨by solve | rfl | (by_cases q0 : w < 0 <;> by_cases q1 : w ≤ 1 <;> simp_all [-Int32.not_lt, -Int32.not_le]), trivial⟩
  · refine a_bipush (v := (-2)) dX11_bySide_15 (by decide) ?_
    exact a_iret dX11_bySide_17 rfl ⟨by solve | rfl | (by_cases q0 : w < 0 <;> by_cases q1 : w ≤ 1 <;> simp_all [-Int32.not_lt, -Int32.not_le]), trivial⟩
set_option maxHeartbeats 4000000 in
set_option maxRecDepth 100000 in
theorem z2104_X11_isTrue {X : Nat × (Nat → Int32)} {fr : Nat} {M : Mem}  (h0 : Cm (up2 fs42 89 0 0) M) : AM yX11_isTrue cX11_isTrue 3 (some .boolean) true (fr + 10) 0 0 X [.ref 89, .int 0, .int 0] M (fun v M1 => v = some (.int 0) ∧ Cm (up2 fs42 89 0 0) M1) := by
  refine AM.of false (by decide +kernel) (by intro h; cases h) (Nat.le_of_ble_eq_true rfl) ?_
  show AW X (RX11, cX11_isTrue, 3, (some .boolean), false, true, fr + 10) 0 0 0 [(0, .ref 89), (1, .int 0), (2, .int 0)] [] M _
  refine a_aload_n dX11_isTrue_0 rfl rfl ?_
  refine a_get (v := .ref 90) dX11_isTrue_1 fl_11_13 (cm_l h0 (by decide)) (cm_s h0 (by decide) rfl) (cm_g h0 rfl (by decide +kernel)) ?_
  refine a_iload_n dX11_isTrue_4 rfl rfl ?_
  refine a_iaload dX11_isTrue_5 (cm_l h0 (by decide)) (cm_s h0 (by decide) rfl) (by unfold vp_in; decide +kernel) ?_
  rw [show M.2.2.1 90 (Int32.toNatClampNeg 0) = 0 from (cm_i h0 (by decide)).trans (by first | decide +kernel | rfl)]
  refine a_tableOut 140 dX11_isTrue_6 (by decide +kernel) (by decide) ?_
  refine a_iload_n dX11_isTrue_140 rfl rfl ?_
  refine a_aload_n dX11_isTrue_141 rfl rfl ?_
  refine a_get (v := .ref 90) dX11_isTrue_142 fl_11_13 (cm_l h0 (by decide)) (cm_s h0 (by decide) rfl) (cm_g h0 rfl (by decide +kernel)) ?_
  refine a_iload_n dX11_isTrue_145 rfl rfl ?_
  refine a_iaload dX11_isTrue_146 (cm_l h0 (by decide)) (cm_s h0 (by decide) rfl) (by unfold vp_in; decide +kernel) ?_
  rw [show M.2.2.1 90 (Int32.toNatClampNeg 0) = 0 from (cm_i h0 (by decide)).trans (by first | decide +kernel | rfl)]
  refine a_ishr dX11_isTrue_147 ?_
  refine a_st (st2 := [.int 0]) (by first | decide +kernel | (refine congrArg (fun z => Value.int z :: []) ?_; decide +kernel) | (refine congrArg (fun z => Value.long z :: []) ?_; decide +kernel)) ?_
  refine a_iconst (v := 1) dX11_isTrue_148 (by decide) ?_
  refine a_iand dX11_isTrue_149 ?_
  refine a_st (st2 := [.int 0]) (by first | decide +kernel | (refine congrArg (fun z => Value.int z :: []) ?_; decide +kernel) | (refine congrArg (fun z => Value.long z :: []) ?_; decide +kernel)) ?_
  refine a_iconst (v := 1) dX11_isTrue_150 (by decide) ?_
  refine a_icmp_ne 158 dX11_isTrue_151 (by decide) (fun _ => ?_) (fun c => absurd c (by decide))
  refine a_iconst (v := 0) dX11_isTrue_158 (by decide) ?_
  exact a_zret dX11_isTrue_159 rfl (by first | decide | (split <;> rfl)) ⟨rfl, h0⟩
set_option maxHeartbeats 4000000 in
set_option maxRecDepth 100000 in
theorem z2103_X11_againstNow {X : Nat × (Nat → Int32)} {fr : Nat} {M : Mem}  (h0 : Cm (up2 fs42 89 0 0) M) : AM yX11_againstNow cX11_againstNow 4 (some .int) true (fr + 11) 0 0 X [.ref 89] M (fun v M1 => v = some (.int 0) ∧ Cm (up2 fs42 89 0 0) M1) := by
  refine AM.of false (by decide +kernel) (by intro h; cases h) (Nat.le_of_ble_eq_true rfl) ?_
  show AW X (RX11, cX11_againstNow, 4, (some .int), false, true, fr + 11) 0 0 0 [(0, .ref 89)] [] M _
  refine a_iconst (v := 0) dX11_againstNow_0 (by decide) ?_
  refine a_istore_n dX11_againstNow_1 rfl (Nat.le_of_ble_eq_true rfl) (lv2 := [(1, .int 0), (0, .ref 89)]) rfl ?_
  refine a_iload_n dX11_againstNow_2 rfl rfl ?_
  refine a_sipush (v := 256) dX11_againstNow_3 (by decide) ?_
  refine a_icmp_ge 71 dX11_againstNow_6 (by decide) (fun c => absurd c (by decide)) (fun _ => ?_)
  refine a_aload_n dX11_againstNow_9 rfl rfl ?_
  refine a_aload_n dX11_againstNow_10 rfl rfl ?_
  refine a_get (v := .int 0) dX11_againstNow_11 fl_11_134 (cm_l h0 (by decide)) (cm_s h0 (by decide) rfl) (cm_gi h0 rfl (by decide) (by first | decide +kernel | rfl)) ?_
  refine a_iload_n dX11_againstNow_14 rfl rfl ?_
  refine a_callV (As := [.int 0, .int 0]) (st := []) (a := 89) (ci := 11) (bc := 0) (bs := 0) (mc := 0) (ms := 0) false dX11_againstNow_15 mw_X11_isTrue rfl (Or.inl ⟨rfl, ml_X11_456⟩) im_X11_isTrue se_X11_isTrue (by decide) (cm_l h0 (by decide)) (cm_s h0 (by decide) rfl) rfl (Nat.le_of_ble_eq_true rfl) (z2104_X11_isTrue (fr := fr)  h0) (fun v M1 hq => ?_)
  obtain ⟨rfl, h1⟩ := hq
  show AW X _ 0 0 18 _ [.int 0] _ _
  refine a_if_ne 25 dX11_againstNow_18 (by decide) (fun c => absurd (by decide) c) (fun _ => ?_)
  refine a_iconst (v := 1) dX11_againstNow_21 (by decide) ?_
  refine a_goto 26 dX11_againstNow_22 (by decide) ?_
  refine a_istore_n dX11_againstNow_26 rfl (Nat.le_of_ble_eq_true rfl) (lv2 := [(2, .int 1), (1, .int 0), (0, .ref 89)]) rfl ?_
  refine a_iconst (v := 0) dX11_againstNow_27 (by decide) ?_
  refine a_istore_n dX11_againstNow_28 rfl (Nat.le_of_ble_eq_true rfl) (lv2 := [(3, .int 0), (2, .int 1), (1, .int 0), (0, .ref 89)]) rfl ?_
  refine a_iload_n dX11_againstNow_29 rfl rfl ?_
  refine a_aload_n dX11_againstNow_30 rfl rfl ?_
  refine a_get (v := .int 0) dX11_againstNow_31 fl_11_144 (cm_l h1 (by decide)) (cm_s h1 (by decide) rfl) (cm_gi h1 rfl (by decide) (by first | decide +kernel | rfl)) ?_
  refine a_icmp_ge 59 dX11_againstNow_34 (by decide) (fun _ => ?_) (fun c => absurd (by decide) c)
  refine a_iload_n dX11_againstNow_59 rfl rfl ?_
  refine a_if_eq 65 dX11_againstNow_60 (by decide) (fun c => absurd c (by decide)) (fun _ => ?_)
  refine a_iload_n dX11_againstNow_63 rfl rfl ?_
  exact a_iret dX11_againstNow_64 rfl ⟨rfl, h1⟩
set_option maxHeartbeats 4000000 in
set_option maxRecDepth 100000 in
theorem q_against {X : Nat × (Nat → Int32)} {fr : Nat} {M : Mem}  (h0 : Cm fs42 M) : AM yX11_against cX11_against 1 (some .int) true (fr + 12) 0 0 X [.ref 89] M (fun v M1 => v = some (.int 0) ∧ True) := by
  refine AM.of false (by decide +kernel) (by intro h; cases h) (Nat.le_of_ble_eq_true rfl) ?_
  show AW X (RX11, cX11_against, 1, (some .int), false, true, fr + 12) 0 0 0 [(0, .ref 89)] [] M _
  refine a_aload_n dX11_against_0 rfl rfl ?_
  refine a_iconst (v := 0) dX11_against_1 (by decide) ?_
  refine a_putI dX11_against_2 (Or.inl ⟨fl_11_1, Or.inl rfl⟩) rfl (cm_l h0 (by decide)) (cm_s h0 (by decide) rfl) rfl rfl ?_
  have h1 : Cm (up2 fs42 89 0 0) (wI M 89 0 0) := cm_I h0 (by decide)
  generalize (wI M 89 0 0) = M1 at h1 ⊢
  refine a_aload_n dX11_against_5 rfl rfl ?_
  refine a_callV (As := []) (st := []) (a := 89) (ci := 11) (bc := 0) (bs := 0) (mc := 0) (ms := 0) false dX11_against_6 mw_X11_againstNow rfl (Or.inl ⟨rfl, ml_X11_460⟩) im_X11_againstNow se_X11_againstNow (by decide) (cm_l h1 (by decide)) (cm_s h1 (by decide) rfl) rfl (Nat.le_of_ble_eq_true rfl) (z2103_X11_againstNow (fr := fr)  h1) (fun v M2 hq => ?_)
  obtain ⟨rfl, h2⟩ := hq
  show AW X _ 0 0 9 _ [.int 0] _ _
  exact a_iret dX11_against_9 rfl ⟨by first | rfl | decide +kernel | simp [*], trivial⟩
set_option maxHeartbeats 4000000 in
set_option maxRecDepth 100000 in
theorem q_classical {X : Nat × (Nat → Int32)} {fr : Nat} {M : Mem}  (h0 : Cm fs42 M) : AM yX11_classical cX11_classical 1 (some .int) true (fr + 12) 0 0 X [.ref 89] M (fun v M1 => v = some (.int 0) ∧ True) := by
  refine AM.of false (by decide +kernel) (by intro h; cases h) (Nat.le_of_ble_eq_true rfl) ?_
  show AW X (RX11, cX11_classical, 1, (some .int), false, true, fr + 12) 0 0 0 [(0, .ref 89)] [] M _
  refine a_aload_n dX11_classical_0 rfl rfl ?_
  refine a_iconst (v := 0) dX11_classical_1 (by decide) ?_
  refine a_putI dX11_classical_2 (Or.inl ⟨fl_11_1, Or.inl rfl⟩) rfl (cm_l h0 (by decide)) (cm_s h0 (by decide) rfl) rfl rfl ?_
  have h1 : Cm (up2 fs42 89 0 0) (wI M 89 0 0) := cm_I h0 (by decide)
  generalize (wI M 89 0 0) = M1 at h1 ⊢
  refine a_aload_n dX11_classical_5 rfl rfl ?_
  refine a_callV (As := []) (st := []) (a := 89) (ci := 11) (bc := 0) (bs := 0) (mc := 0) (ms := 0) false dX11_classical_6 mw_X11_againstNow rfl (Or.inl ⟨rfl, ml_X11_460⟩) im_X11_againstNow se_X11_againstNow (by decide) (cm_l h1 (by decide)) (cm_s h1 (by decide) rfl) rfl (Nat.le_of_ble_eq_true rfl) (z2103_X11_againstNow (fr := fr)  h1) (fun v M2 hq => ?_)
  obtain ⟨rfl, h2⟩ := hq
  show AW X _ 0 0 9 _ [.int 0] _ _
  refine a_iconst (v := (-1)) dX11_classical_9 (by decide) ?_
  refine a_icmp_ne 17 dX11_classical_10 (by decide) (fun _ => ?_) (fun c => absurd c (by decide))
  refine a_iconst (v := 0) dX11_classical_17 (by decide) ?_
  exact a_iret dX11_classical_18 rfl ⟨by first | rfl | decide +kernel | simp [*], trivial⟩
set_option maxHeartbeats 4000000 in
set_option maxRecDepth 100000 in
theorem z2105_X11_tidies {X : Nat × (Nat → Int32)} {fr : Nat} {M : Mem}  (h0 : Cm (up2 (up2 fs42 89 0 0) 89 24 0) M) : AM yX11_tidies cX11_tidies 4 none true (fr + 11) 0 0 X [.ref 89] M (fun v M1 => v = none ∧ Cm (up2 (up2 fs42 89 0 0) 89 24 0) M1) := by
  refine AM.of false (by decide +kernel) (by intro h; cases h) (Nat.le_of_ble_eq_true rfl) ?_
  show AW X (RX11, cX11_tidies, 4, none, false, true, fr + 11) 0 0 0 [(0, .ref 89)] [] M _
  refine a_aload_n dX11_tidies_0 rfl rfl ?_
  refine a_get (v := .int 0) dX11_tidies_1 fl_11_140 (cm_l h0 (by decide)) (cm_s h0 (by decide) rfl) (cm_gi h0 rfl (by decide) (by first | decide +kernel | rfl)) ?_
  refine a_if_ne 17 dX11_tidies_4 (by decide) (fun c => absurd (by decide) c) (fun _ => ?_)
  refine a_aload_n dX11_tidies_7 rfl rfl ?_
  refine a_get (v := .int 1) dX11_tidies_8 fl_11_137 (cm_l h0 (by decide)) (cm_s h0 (by decide) rfl) (cm_gi h0 rfl (by decide) (by first | decide +kernel | rfl)) ?_
  refine a_sipush (v := 8192) dX11_tidies_11 (by decide) ?_
  refine a_icmp_ge 18 dX11_tidies_14 (by decide) (fun c => absurd c (by decide)) (fun _ => ?_)
  exact a_vret dX11_tidies_17 rfl ⟨rfl, h0⟩
set_option maxHeartbeats 4000000 in
set_option maxRecDepth 100000 in
theorem z2107_X11_wordsOf {X : Nat × (Nat → Int32)} {fr : Nat} {M : Mem}  (h0 : Cm (up2 (up2 fs42 89 0 0) 89 24 0) M) : AM yX11_wordsOf cX11_wordsOf 2 (some .int) true (fr + 10) 0 0 X [.ref 89, .int 0] M (fun v M1 => v = some (.int 1) ∧ Cm (up2 (up2 fs42 89 0 0) 89 24 0) M1) := by
  refine AM.of false (by decide +kernel) (by intro h; cases h) (Nat.le_of_ble_eq_true rfl) ?_
  show AW X (RX11, cX11_wordsOf, 2, (some .int), false, true, fr + 10) 0 0 0 [(0, .ref 89), (1, .int 0)] [] M _
  refine a_aload_n dX11_wordsOf_0 rfl rfl ?_
  refine a_get (v := .ref 91) dX11_wordsOf_1 fl_11_17 (cm_l h0 (by decide)) (cm_s h0 (by decide) rfl) (cm_g h0 rfl (by decide +kernel)) ?_
  refine a_iload_n dX11_wordsOf_4 rfl rfl ?_
  refine a_iaload dX11_wordsOf_5 (cm_l h0 (by decide)) (cm_s h0 (by decide) rfl) (by unfold vp_in; decide +kernel) ?_
  rw [show M.2.2.1 91 (Int32.toNatClampNeg 0) = (-1) from (cm_i h0 (by decide)).trans (by first | decide +kernel | rfl)]
  refine a_iconst (v := (-1)) dX11_wordsOf_6 (by decide) ?_
  refine a_icmp_ne 14 dX11_wordsOf_7 (by decide) (fun c => absurd (by decide) c) (fun _ => ?_)
  refine a_iconst (v := 1) dX11_wordsOf_10 (by decide) ?_
  refine a_goto 37 dX11_wordsOf_11 (by decide) ?_
  exact a_iret dX11_wordsOf_37 rfl ⟨rfl, h0⟩
set_option maxHeartbeats 4000000 in
set_option maxRecDepth 100000 in
theorem z2109_X11_isHad {X : Nat × (Nat → Int32)} {fr : Nat} {M : Mem}  (h0 : Cm (up2 (up2 (up2 fs42 89 0 0) 89 24 0) 89 24 0) M) : AM yX11_isHad cX11_isHad 5 (some .boolean) true (fr + 9) 0 0 X [.ref 89, .int 0, .int 0, .int 0] M (fun v M1 => v = some (.int 0) ∧ Cm (up2 (up2 (up2 fs42 89 0 0) 89 24 0) 89 24 0) M1) := by
  refine AM.of false (by decide +kernel) (by intro h; cases h) (Nat.le_of_ble_eq_true rfl) ?_
  show AW X (RX11, cX11_isHad, 5, (some .boolean), false, true, fr + 9) 0 0 0 [(0, .ref 89), (1, .int 0), (2, .int 0), (3, .int 0)] [] M _
  refine a_iload_n dX11_isHad_0 rfl rfl ?_
  refine a_istore dX11_isHad_1 (Nat.le_of_ble_eq_true rfl) (lv2 := [(4, .int 0), (0, .ref 89), (1, .int 0), (2, .int 0), (3, .int 0)]) rfl ?_
  refine a_iload dX11_isHad_3 rfl ?_
  refine a_iload_n dX11_isHad_5 rfl rfl ?_
  refine a_icmp_ge 28 dX11_isHad_6 (by decide) (fun _ => ?_) (fun c => absurd (by decide) c)
  refine a_iconst (v := 0) dX11_isHad_28 (by decide) ?_
  exact a_zret dX11_isHad_29 rfl (by first | decide | (split <;> rfl)) ⟨rfl, h0⟩
set_option maxHeartbeats 4000000 in
set_option maxRecDepth 100000 in
theorem z2110_X11_formula {X : Nat × (Nat → Int32)} {fr : Nat} {M : Mem}  (h0 : Cm (up2 (up2 (up2 fs42 89 0 0) 89 24 0) 89 24 0) M) : AM yX11_formula cX11_formula 6 (some .int) true (fr + 9) 0 0 X [.ref 89, .int 8, .int (-1), .int (-1)] M (fun v M1 => v = some (.int 1) ∧ Cm (up2 (up2 (up2 (up2 (up2 (up2 (up2 (up2 (up2 fs42 89 0 0) 89 24 0) 89 24 0) 90 1 8) 91 1 (-1)) 92 1 (-1)) 93 1 (-1)) 94 424 1) 89 7 2) M1) := by
  refine AM.of false (by decide +kernel) (by intro h; cases h) (Nat.le_of_ble_eq_true rfl) ?_
  show AW X (RX11, cX11_formula, 6, (some .int), false, true, fr + 9) 0 0 0 [(0, .ref 89), (1, .int 8), (2, .int (-1)), (3, .int (-1))] [] M _
  refine a_iload_n dX11_formula_0 rfl rfl ?_
  refine a_bipush (v := 31) dX11_formula_1 (by decide) ?_
  refine a_iload_n dX11_formula_3 rfl rfl ?_
  refine a_imul dX11_formula_4 ?_
  refine a_st (st2 := [.int (-31), .int 8]) (by first | decide +kernel | (refine congrArg (fun z => Value.int z :: [.int 8]) ?_; decide +kernel) | (refine congrArg (fun z => Value.long z :: [.int 8]) ?_; decide +kernel)) ?_
  refine a_iadd dX11_formula_5 ?_
  refine a_st (st2 := [.int (-23)]) (by first | decide +kernel | (refine congrArg (fun z => Value.int z :: []) ?_; decide +kernel) | (refine congrArg (fun z => Value.long z :: []) ?_; decide +kernel)) ?_
  refine a_sipush (v := 577) dX11_formula_6 (by decide) ?_
  refine a_iload_n dX11_formula_9 rfl rfl ?_
  refine a_imul dX11_formula_10 ?_
  refine a_st (st2 := [.int (-577), .int (-23)]) (by first | decide +kernel | (refine congrArg (fun z => Value.int z :: [.int (-23)]) ?_; decide +kernel) | (refine congrArg (fun z => Value.long z :: [.int (-23)]) ?_; decide +kernel)) ?_
  refine a_iadd dX11_formula_11 ?_
  refine a_st (st2 := [.int (-600)]) (by first | decide +kernel | (refine congrArg (fun z => Value.int z :: []) ?_; decide +kernel) | (refine congrArg (fun z => Value.long z :: []) ?_; decide +kernel)) ?_
  refine a_sipush (v := 1023) dX11_formula_12 (by decide) ?_
  refine a_iand dX11_formula_15 ?_
  refine a_st (st2 := [.int 424]) (by first | decide +kernel | (refine congrArg (fun z => Value.int z :: []) ?_; decide +kernel) | (refine congrArg (fun z => Value.long z :: []) ?_; decide +kernel)) ?_
  refine a_istore dX11_formula_16 (Nat.le_of_ble_eq_true rfl) (lv2 := [(4, .int 424), (0, .ref 89), (1, .int 8), (2, .int (-1)), (3, .int (-1))]) rfl ?_
  refine a_aload_n dX11_formula_18 rfl rfl ?_
  refine a_get (v := .ref 94) dX11_formula_19 fl_11_26 (cm_l h0 (by decide)) (cm_s h0 (by decide) rfl) (cm_g h0 rfl (by decide +kernel)) ?_
  refine a_iload dX11_formula_22 rfl ?_
  refine a_iaload dX11_formula_24 (cm_l h0 (by decide)) (cm_s h0 (by decide) rfl) (by unfold vp_in; decide +kernel) ?_
  rw [show M.2.2.1 94 (Int32.toNatClampNeg 424) = (-1) from (cm_i h0 (by decide)).trans (by first | decide +kernel | rfl)]
  refine a_istore dX11_formula_25 (Nat.le_of_ble_eq_true rfl) (lv2 := [(5, .int (-1)), (4, .int 424), (0, .ref 89), (1, .int 8), (2, .int (-1)), (3, .int (-1))]) rfl ?_
  refine a_iload dX11_formula_27 rfl ?_
  refine a_iconst (v := (-1)) dX11_formula_29 (by decide) ?_
  refine a_icmp_eq 81 dX11_formula_30 (by decide) (fun _ => ?_) (fun c => absurd (by decide) c)
  refine a_aload_n dX11_formula_81 rfl rfl ?_
  refine a_get (v := .ref 90) dX11_formula_82 fl_11_13 (cm_l h0 (by decide)) (cm_s h0 (by decide) rfl) (cm_g h0 rfl (by decide +kernel)) ?_
  refine a_aload_n dX11_formula_85 rfl rfl ?_
  refine a_get (v := .int 1) dX11_formula_86 fl_11_137 (cm_l h0 (by decide)) (cm_s h0 (by decide) rfl) (cm_gi h0 rfl (by decide) (by first | decide +kernel | rfl)) ?_
  refine a_iload_n dX11_formula_89 rfl rfl ?_
  refine a_iastore dX11_formula_90 (cm_l h0 (by decide)) (cm_s h0 (by decide) rfl) (by unfold vp_in; decide +kernel) ?_
  rw [show Int32.toNatClampNeg 1 = 1 from by decide +kernel]
  have h1 : Cm (up2 (up2 (up2 (up2 fs42 89 0 0) 89 24 0) 89 24 0) 90 1 8) (wI M 90 1 8) := cm_I h0 (by decide)
  generalize (wI M 90 1 8) = M1 at h1 ⊢
  refine a_aload_n dX11_formula_91 rfl rfl ?_
  refine a_get (v := .ref 91) dX11_formula_92 fl_11_17 (cm_l h1 (by decide)) (cm_s h1 (by decide) rfl) (cm_g h1 rfl (by decide +kernel)) ?_
  refine a_aload_n dX11_formula_95 rfl rfl ?_
  refine a_get (v := .int 1) dX11_formula_96 fl_11_137 (cm_l h1 (by decide)) (cm_s h1 (by decide) rfl) (cm_gi h1 rfl (by decide) (by first | decide +kernel | rfl)) ?_
  refine a_iload_n dX11_formula_99 rfl rfl ?_
  refine a_iastore dX11_formula_100 (cm_l h1 (by decide)) (cm_s h1 (by decide) rfl) (by unfold vp_in; decide +kernel) ?_
  rw [show Int32.toNatClampNeg 1 = 1 from by decide +kernel]
  have h2 : Cm (up2 (up2 (up2 (up2 (up2 fs42 89 0 0) 89 24 0) 89 24 0) 90 1 8) 91 1 (-1)) (wI M1 91 1 (-1)) := cm_I h1 (by decide)
  generalize (wI M1 91 1 (-1)) = M2 at h2 ⊢
  refine a_aload_n dX11_formula_101 rfl rfl ?_
  refine a_get (v := .ref 92) dX11_formula_102 fl_11_20 (cm_l h2 (by decide)) (cm_s h2 (by decide) rfl) (cm_g h2 rfl (by decide +kernel)) ?_
  refine a_aload_n dX11_formula_105 rfl rfl ?_
  refine a_get (v := .int 1) dX11_formula_106 fl_11_137 (cm_l h2 (by decide)) (cm_s h2 (by decide) rfl) (cm_gi h2 rfl (by decide) (by first | decide +kernel | rfl)) ?_
  refine a_iload_n dX11_formula_109 rfl rfl ?_
  refine a_iastore dX11_formula_110 (cm_l h2 (by decide)) (cm_s h2 (by decide) rfl) (by unfold vp_in; decide +kernel) ?_
  rw [show Int32.toNatClampNeg 1 = 1 from by decide +kernel]
  have h3 : Cm (up2 (up2 (up2 (up2 (up2 (up2 fs42 89 0 0) 89 24 0) 89 24 0) 90 1 8) 91 1 (-1)) 92 1 (-1)) (wI M2 92 1 (-1)) := cm_I h2 (by decide)
  generalize (wI M2 92 1 (-1)) = M3 at h3 ⊢
  refine a_aload_n dX11_formula_111 rfl rfl ?_
  refine a_get (v := .ref 93) dX11_formula_112 fl_11_23 (cm_l h3 (by decide)) (cm_s h3 (by decide) rfl) (cm_g h3 rfl (by decide +kernel)) ?_
  refine a_aload_n dX11_formula_115 rfl rfl ?_
  refine a_get (v := .int 1) dX11_formula_116 fl_11_137 (cm_l h3 (by decide)) (cm_s h3 (by decide) rfl) (cm_gi h3 rfl (by decide) (by first | decide +kernel | rfl)) ?_
  refine a_aload_n dX11_formula_119 rfl rfl ?_
  refine a_get (v := .ref 94) dX11_formula_120 fl_11_26 (cm_l h3 (by decide)) (cm_s h3 (by decide) rfl) (cm_g h3 rfl (by decide +kernel)) ?_
  refine a_iload dX11_formula_123 rfl ?_
  refine a_iaload dX11_formula_125 (cm_l h3 (by decide)) (cm_s h3 (by decide) rfl) (by unfold vp_in; decide +kernel) ?_
  rw [show M3.2.2.1 94 (Int32.toNatClampNeg 424) = (-1) from (cm_i h3 (by decide)).trans (by first | decide +kernel | rfl)]
  refine a_iastore dX11_formula_126 (cm_l h3 (by decide)) (cm_s h3 (by decide) rfl) (by unfold vp_in; decide +kernel) ?_
  rw [show Int32.toNatClampNeg 1 = 1 from by decide +kernel]
  have h4 : Cm (up2 (up2 (up2 (up2 (up2 (up2 (up2 fs42 89 0 0) 89 24 0) 89 24 0) 90 1 8) 91 1 (-1)) 92 1 (-1)) 93 1 (-1)) (wI M3 93 1 (-1)) := cm_I h3 (by decide)
  generalize (wI M3 93 1 (-1)) = M4 at h4 ⊢
  refine a_aload_n dX11_formula_127 rfl rfl ?_
  refine a_get (v := .ref 94) dX11_formula_128 fl_11_26 (cm_l h4 (by decide)) (cm_s h4 (by decide) rfl) (cm_g h4 rfl (by decide +kernel)) ?_
  refine a_iload dX11_formula_131 rfl ?_
  refine a_aload_n dX11_formula_133 rfl rfl ?_
  refine a_get (v := .int 1) dX11_formula_134 fl_11_137 (cm_l h4 (by decide)) (cm_s h4 (by decide) rfl) (cm_gi h4 rfl (by decide) (by first | decide +kernel | rfl)) ?_
  refine a_iastore dX11_formula_137 (cm_l h4 (by decide)) (cm_s h4 (by decide) rfl) (by unfold vp_in; decide +kernel) ?_
  rw [show Int32.toNatClampNeg 424 = 424 from by decide +kernel]
  have h5 : Cm (up2 (up2 (up2 (up2 (up2 (up2 (up2 (up2 fs42 89 0 0) 89 24 0) 89 24 0) 90 1 8) 91 1 (-1)) 92 1 (-1)) 93 1 (-1)) 94 424 1) (wI M4 94 424 1) := cm_I h4 (by decide)
  generalize (wI M4 94 424 1) = M5 at h5 ⊢
  refine a_aload_n dX11_formula_138 rfl rfl ?_
  refine a_dup dX11_formula_139 rfl ?_
  refine a_get (v := .int 1) dX11_formula_140 fl_11_137 (cm_l h5 (by decide)) (cm_s h5 (by decide) rfl) (cm_gi h5 rfl (by decide) (by first | decide +kernel | rfl)) ?_
  refine a_iconst (v := 1) dX11_formula_143 (by decide) ?_
  refine a_iadd dX11_formula_144 ?_
  refine a_st (st2 := [.int 2, .ref 89]) (by first | decide +kernel | (refine congrArg (fun z => Value.int z :: [.ref 89]) ?_; decide +kernel) | (refine congrArg (fun z => Value.long z :: [.ref 89]) ?_; decide +kernel)) ?_
  refine a_putI dX11_formula_145 (Or.inl ⟨fl_11_137, Or.inl rfl⟩) rfl (cm_l h5 (by decide)) (cm_s h5 (by decide) rfl) rfl rfl ?_
  have h6 : Cm (up2 (up2 (up2 (up2 (up2 (up2 (up2 (up2 (up2 fs42 89 0 0) 89 24 0) 89 24 0) 90 1 8) 91 1 (-1)) 92 1 (-1)) 93 1 (-1)) 94 424 1) 89 7 2) (wI M5 89 7 2) := cm_I h5 (by decide)
  generalize (wI M5 89 7 2) = M6 at h6 ⊢
  refine a_aload_n dX11_formula_148 rfl rfl ?_
  refine a_get (v := .int 2) dX11_formula_149 fl_11_137 (cm_l h6 (by decide)) (cm_s h6 (by decide) rfl) (cm_gi h6 rfl (by decide) (by first | decide +kernel | rfl)) ?_
  refine a_iconst (v := 1) dX11_formula_152 (by decide) ?_
  refine a_isub dX11_formula_153 ?_
  refine a_st (st2 := [.int 1]) (by first | decide +kernel | (refine congrArg (fun z => Value.int z :: []) ?_; decide +kernel) | (refine congrArg (fun z => Value.long z :: []) ?_; decide +kernel)) ?_
  exact a_iret dX11_formula_154 rfl ⟨rfl, h6⟩
set_option maxHeartbeats 4000000 in
set_option maxRecDepth 100000 in
theorem z2111_X11_isHad {X : Nat × (Nat → Int32)} {fr : Nat} {M : Mem}  (h0 : Cm (up2 (up2 (up2 (up2 (up2 (up2 (up2 (up2 (up2 fs42 89 0 0) 89 24 0) 89 24 0) 90 1 8) 91 1 (-1)) 92 1 (-1)) 93 1 (-1)) 94 424 1) 89 7 2) M) : AM yX11_isHad cX11_isHad 5 (some .boolean) true (fr + 9) 0 0 X [.ref 89, .int 0, .int 0, .int 1] M (fun v M1 => v = some (.int 0) ∧ Cm (up2 (up2 (up2 (up2 (up2 (up2 (up2 (up2 (up2 fs42 89 0 0) 89 24 0) 89 24 0) 90 1 8) 91 1 (-1)) 92 1 (-1)) 93 1 (-1)) 94 424 1) 89 7 2) M1) := by
  refine AM.of false (by decide +kernel) (by intro h; cases h) (Nat.le_of_ble_eq_true rfl) ?_
  show AW X (RX11, cX11_isHad, 5, (some .boolean), false, true, fr + 9) 0 0 0 [(0, .ref 89), (1, .int 0), (2, .int 0), (3, .int 1)] [] M _
  refine a_iload_n dX11_isHad_0 rfl rfl ?_
  refine a_istore dX11_isHad_1 (Nat.le_of_ble_eq_true rfl) (lv2 := [(4, .int 0), (0, .ref 89), (1, .int 0), (2, .int 0), (3, .int 1)]) rfl ?_
  refine a_iload dX11_isHad_3 rfl ?_
  refine a_iload_n dX11_isHad_5 rfl rfl ?_
  refine a_icmp_ge 28 dX11_isHad_6 (by decide) (fun _ => ?_) (fun c => absurd (by decide) c)
  refine a_iconst (v := 0) dX11_isHad_28 (by decide) ?_
  exact a_zret dX11_isHad_29 rfl (by first | decide | (split <;> rfl)) ⟨rfl, h0⟩
set_option maxHeartbeats 4000000 in
set_option maxRecDepth 100000 in
theorem z2112_X11_byOne {X : Nat × (Nat → Int32)} {fr : Nat} {M : Mem}  (h0 : Cm (up2 (up2 (up2 (up2 (up2 (up2 (up2 (up2 (up2 fs42 89 0 0) 89 24 0) 89 24 0) 90 1 8) 91 1 (-1)) 92 1 (-1)) 93 1 (-1)) 94 424 1) 89 7 2) M) : AM yX11_byOne cX11_byOne 9 (some .boolean) true (fr + 9) 0 0 X [.ref 89, .int 0, .int 0, .int 0] M (fun v M1 => v = some (.int 0) ∧ Cm (up2 (up2 (up2 (up2 (up2 (up2 (up2 (up2 (up2 fs42 89 0 0) 89 24 0) 89 24 0) 90 1 8) 91 1 (-1)) 92 1 (-1)) 93 1 (-1)) 94 424 1) 89 7 2) M1) := by
  refine AM.of false (by decide +kernel) (by intro h; cases h) (Nat.le_of_ble_eq_true rfl) ?_
  show AW X (RX11, cX11_byOne, 9, (some .boolean), false, true, fr + 9) 0 0 0 [(0, .ref 89), (1, .int 0), (2, .int 0), (3, .int 0)] [] M _
  refine a_iload_n dX11_byOne_0 rfl rfl ?_
  refine a_istore dX11_byOne_1 (Nat.le_of_ble_eq_true rfl) (lv2 := [(4, .int 0), (0, .ref 89), (1, .int 0), (2, .int 0), (3, .int 0)]) rfl ?_
  refine a_iload dX11_byOne_3 rfl ?_
  refine a_iload_n dX11_byOne_5 rfl rfl ?_
  refine a_icmp_ge 175 dX11_byOne_6 (by decide) (fun _ => ?_) (fun c => absurd (by decide) c)
  refine a_iconst (v := 0) dX11_byOne_175 (by decide) ?_
  exact a_zret dX11_byOne_176 rfl (by first | decide | (split <;> rfl)) ⟨rfl, h0⟩
set_option maxHeartbeats 4000000 in
set_option maxRecDepth 100000 in
theorem z2108_X11_canProve {X : Nat × (Nat → Int32)} {fr : Nat} {M : Mem}  (h0 : Cm (up2 (up2 (up2 fs42 89 0 0) 89 24 0) 89 24 0) M) : AM yX11_canProve cX11_canProve 9 (some .boolean) true (fr + 10) 0 0 X [.ref 89, .int 0, .int 0, .int 0] M (fun v M1 => v = some (.int 0) ∧ Cm (up2 (up2 (up2 (up2 (up2 (up2 (up2 (up2 (up2 fs42 89 0 0) 89 24 0) 89 24 0) 90 1 8) 91 1 (-1)) 92 1 (-1)) 93 1 (-1)) 94 424 1) 89 7 2) M1) := by
  refine AM.of false (by decide +kernel) (by intro h; cases h) (Nat.le_of_ble_eq_true rfl) ?_
  show AW X (RX11, cX11_canProve, 9, (some .boolean), false, true, fr + 10) 0 0 0 [(0, .ref 89), (1, .int 0), (2, .int 0), (3, .int 0)] [] M _
  refine a_aload_n dX11_canProve_0 rfl rfl ?_
  refine a_iload_n dX11_canProve_1 rfl rfl ?_
  refine a_iload_n dX11_canProve_2 rfl rfl ?_
  refine a_iload_n dX11_canProve_3 rfl rfl ?_
  refine a_callV (As := [.int 0, .int 0, .int 0]) (st := []) (a := 89) (ci := 11) (bc := 0) (bs := 0) (mc := 0) (ms := 0) false dX11_canProve_4 mw_X11_isHad rfl (Or.inl ⟨rfl, ml_X11_438⟩) im_X11_isHad se_X11_isHad (by decide) (cm_l h0 (by decide)) (cm_s h0 (by decide) rfl) rfl (Nat.le_of_ble_eq_true rfl) (z2109_X11_isHad (fr := fr)  h0) (fun v M1 hq => ?_)
  obtain ⟨rfl, h1⟩ := hq
  show AW X _ 0 0 7 _ [.int 0] _ _
  refine a_if_ne 27 dX11_canProve_7 (by decide) (fun c => absurd (by decide) c) (fun _ => ?_)
  refine a_aload_n dX11_canProve_10 rfl rfl ?_
  refine a_iload_n dX11_canProve_11 rfl rfl ?_
  refine a_iload_n dX11_canProve_12 rfl rfl ?_
  refine a_aload_n dX11_canProve_13 rfl rfl ?_
  refine a_bipush (v := 8) dX11_canProve_14 (by decide) ?_
  refine a_iconst (v := (-1)) dX11_canProve_16 (by decide) ?_
  refine a_iconst (v := (-1)) dX11_canProve_17 (by decide) ?_
  refine a_callV (As := [.int 8, .int (-1), .int (-1)]) (st := [.int 0, .int 0, .ref 89]) (a := 89) (ci := 11) (bc := 0) (bs := 0) (mc := 0) (ms := 0) false dX11_canProve_18 mw_X11_formula rfl (Or.inl ⟨rfl, ml_X11_130⟩) im_X11_formula se_X11_formula (by decide) (cm_l h1 (by decide)) (cm_s h1 (by decide) rfl) rfl (Nat.le_of_ble_eq_true rfl) (z2110_X11_formula (fr := fr)  h1) (fun v M2 hq => ?_)
  obtain ⟨rfl, h2⟩ := hq
  show AW X _ 0 0 21 _ [.int 1, .int 0, .int 0, .ref 89] _ _
  refine a_callV (As := [.int 0, .int 0, .int 1]) (st := []) (a := 89) (ci := 11) (bc := 0) (bs := 0) (mc := 0) (ms := 0) false dX11_canProve_21 mw_X11_isHad rfl (Or.inl ⟨rfl, ml_X11_438⟩) im_X11_isHad se_X11_isHad (by decide) (cm_l h2 (by decide)) (cm_s h2 (by decide) rfl) rfl (Nat.le_of_ble_eq_true rfl) (z2111_X11_isHad (fr := fr)  h2) (fun v M3 hq => ?_)
  obtain ⟨rfl, h3⟩ := hq
  show AW X _ 0 0 24 _ [.int 0] _ _
  refine a_if_eq 29 dX11_canProve_24 (by decide) (fun _ => ?_) (fun c => absurd (by decide) c)
  refine a_iload_n dX11_canProve_29 rfl rfl ?_
  refine a_istore dX11_canProve_30 (Nat.le_of_ble_eq_true rfl) (lv2 := [(4, .int 0), (0, .ref 89), (1, .int 0), (2, .int 0), (3, .int 0)]) rfl ?_
  refine a_iload dX11_canProve_32 rfl ?_
  refine a_iload_n dX11_canProve_34 rfl rfl ?_
  refine a_icmp_ge 396 dX11_canProve_35 (by decide) (fun _ => ?_) (fun c => absurd (by decide) c)
  refine a_aload_n dX11_canProve_396 rfl rfl ?_
  refine a_get (v := .ref 90) dX11_canProve_397 fl_11_13 (cm_l h3 (by decide)) (cm_s h3 (by decide) rfl) (cm_g h3 rfl (by decide +kernel)) ?_
  refine a_iload_n dX11_canProve_400 rfl rfl ?_
  refine a_iaload dX11_canProve_401 (cm_l h3 (by decide)) (cm_s h3 (by decide) rfl) (by unfold vp_in; decide +kernel) ?_
  rw [show M3.2.2.1 90 (Int32.toNatClampNeg 0) = 0 from (cm_i h3 (by decide)).trans (by first | decide +kernel | rfl)]
  refine a_bipush (v := 9) dX11_canProve_402 (by decide) ?_
  refine a_icmp_ne 441 dX11_canProve_404 (by decide) (fun _ => ?_) (fun c => absurd c (by decide))
  refine a_aload_n dX11_canProve_441 rfl rfl ?_
  refine a_get (v := .ref 90) dX11_canProve_442 fl_11_13 (cm_l h3 (by decide)) (cm_s h3 (by decide) rfl) (cm_g h3 rfl (by decide +kernel)) ?_
  refine a_iload_n dX11_canProve_445 rfl rfl ?_
  refine a_iaload dX11_canProve_446 (cm_l h3 (by decide)) (cm_s h3 (by decide) rfl) (by unfold vp_in; decide +kernel) ?_
  rw [show M3.2.2.1 90 (Int32.toNatClampNeg 0) = 0 from (cm_i h3 (by decide)).trans (by first | decide +kernel | rfl)]
  refine a_bipush (v := 10) dX11_canProve_447 (by decide) ?_
  refine a_icmp_ne 488 dX11_canProve_449 (by decide) (fun _ => ?_) (fun c => absurd c (by decide))
  refine a_aload_n dX11_canProve_488 rfl rfl ?_
  refine a_get (v := .ref 90) dX11_canProve_489 fl_11_13 (cm_l h3 (by decide)) (cm_s h3 (by decide) rfl) (cm_g h3 rfl (by decide +kernel)) ?_
  refine a_iload_n dX11_canProve_492 rfl rfl ?_
  refine a_iaload dX11_canProve_493 (cm_l h3 (by decide)) (cm_s h3 (by decide) rfl) (by unfold vp_in; decide +kernel) ?_
  rw [show M3.2.2.1 90 (Int32.toNatClampNeg 0) = 0 from (cm_i h3 (by decide)).trans (by first | decide +kernel | rfl)]
  refine a_bipush (v := 11) dX11_canProve_494 (by decide) ?_
  refine a_icmp_ne 531 dX11_canProve_496 (by decide) (fun _ => ?_) (fun c => absurd c (by decide))
  refine a_aload_n dX11_canProve_531 rfl rfl ?_
  refine a_iload_n dX11_canProve_532 rfl rfl ?_
  refine a_iload_n dX11_canProve_533 rfl rfl ?_
  refine a_iload_n dX11_canProve_534 rfl rfl ?_
  refine a_callV (As := [.int 0, .int 0, .int 0]) (st := []) (a := 89) (ci := 11) (bc := 0) (bs := 0) (mc := 0) (ms := 0) false dX11_canProve_535 mw_X11_byOne rfl (Or.inl ⟨rfl, ml_X11_450⟩) im_X11_byOne se_X11_byOne (by decide) (cm_l h3 (by decide)) (cm_s h3 (by decide) rfl) rfl (Nat.le_of_ble_eq_true rfl) (z2112_X11_byOne (fr := fr)  h3) (fun v M4 hq => ?_)
  obtain ⟨rfl, h4⟩ := hq
  show AW X _ 0 0 538 _ [.int 0] _ _
  exact a_zret dX11_canProve_538 rfl (by first | decide | (split <;> rfl)) ⟨rfl, h4⟩
set_option maxHeartbeats 4000000 in
set_option maxRecDepth 100000 in
theorem z2106_X11_provableBy {X : Nat × (Nat → Int32)} {fr : Nat} {M : Mem}  (h0 : Cm (up2 (up2 fs42 89 0 0) 89 24 0) M) : AM yX11_provableBy cX11_provableBy 5 (some .int) true (fr + 11) 0 0 X [.ref 89, .int 0] M (fun v M1 => v = some (.int 0) ∧ Cm (up2 (up2 (up2 (up2 (up2 (up2 (up2 (up2 (up2 fs42 89 0 0) 89 24 0) 89 24 0) 90 1 8) 91 1 (-1)) 92 1 (-1)) 93 1 (-1)) 94 424 1) 89 7 2) M1) := by
  refine AM.of false (by decide +kernel) (by intro h; cases h) (Nat.le_of_ble_eq_true rfl) ?_
  show AW X (RX11, cX11_provableBy, 5, (some .int), false, true, fr + 11) 0 0 0 [(0, .ref 89), (1, .int 0)] [] M _
  refine a_aload_n dX11_provableBy_0 rfl rfl ?_
  refine a_aload_n dX11_provableBy_1 rfl rfl ?_
  refine a_get (v := .int 0) dX11_provableBy_2 fl_11_134 (cm_l h0 (by decide)) (cm_s h0 (by decide) rfl) (cm_gi h0 rfl (by decide) (by first | decide +kernel | rfl)) ?_
  refine a_callV (As := [.int 0]) (st := []) (a := 89) (ci := 11) (bc := 0) (bs := 0) (mc := 0) (ms := 0) false dX11_provableBy_5 mw_X11_wordsOf rfl (Or.inl ⟨rfl, ml_X11_435⟩) im_X11_wordsOf se_X11_wordsOf (by decide) (cm_l h0 (by decide)) (cm_s h0 (by decide) rfl) rfl (Nat.le_of_ble_eq_true rfl) (z2107_X11_wordsOf (fr := fr)  h0) (fun v M1 hq => ?_)
  obtain ⟨rfl, h1⟩ := hq
  show AW X _ 0 0 8 _ [.int 1] _ _
  refine a_istore_n dX11_provableBy_8 rfl (Nat.le_of_ble_eq_true rfl) (lv2 := [(2, .int 1), (0, .ref 89), (1, .int 0)]) rfl ?_
  refine a_iconst (v := 0) dX11_provableBy_9 (by decide) ?_
  refine a_istore_n dX11_provableBy_10 rfl (Nat.le_of_ble_eq_true rfl) (lv2 := [(3, .int 0), (2, .int 1), (0, .ref 89), (1, .int 0)]) rfl ?_
  refine a_iload_n dX11_provableBy_11 rfl rfl ?_
  refine a_aload_n dX11_provableBy_12 rfl rfl ?_
  refine a_get (v := .int 0) dX11_provableBy_13 fl_11_144 (cm_l h1 (by decide)) (cm_s h1 (by decide) rfl) (cm_gi h1 rfl (by decide) (by first | decide +kernel | rfl)) ?_
  refine a_icmp_ge 38 dX11_provableBy_16 (by decide) (fun _ => ?_) (fun c => absurd (by decide) c)
  refine a_iload_n dX11_provableBy_38 rfl rfl ?_
  refine a_bipush (v := 40) dX11_provableBy_39 (by decide) ?_
  refine a_icmp_le 47 dX11_provableBy_41 (by decide) (fun _ => ?_) (fun c => absurd (by decide) c)
  refine a_aload_n dX11_provableBy_47 rfl rfl ?_
  refine a_iconst (v := 0) dX11_provableBy_48 (by decide) ?_
  refine a_putI dX11_provableBy_49 (Or.inl ⟨fl_11_151, Or.inl rfl⟩) rfl (cm_l h1 (by decide)) (cm_s h1 (by decide) rfl) rfl rfl ?_
  have h2 : Cm (up2 (up2 (up2 fs42 89 0 0) 89 24 0) 89 24 0) (wI M1 89 24 0) := cm_I h1 (by decide)
  generalize (wI M1 89 24 0) = M2 at h2 ⊢
  refine a_iconst (v := 0) dX11_provableBy_52 (by decide) ?_
  refine a_istore_n dX11_provableBy_53 rfl (Nat.le_of_ble_eq_true rfl) (lv2 := [(3, .int 0), (2, .int 1), (0, .ref 89), (1, .int 0)]) rfl ?_
  refine a_iconst (v := 0) dX11_provableBy_54 (by decide) ?_
  refine a_istore dX11_provableBy_55 (Nat.le_of_ble_eq_true rfl) (lv2 := [(4, .int 0), (3, .int 0), (2, .int 1), (0, .ref 89), (1, .int 0)]) rfl ?_
  refine a_iload dX11_provableBy_57 rfl ?_
  refine a_aload_n dX11_provableBy_59 rfl rfl ?_
  refine a_get (v := .int 0) dX11_provableBy_60 fl_11_144 (cm_l h2 (by decide)) (cm_s h2 (by decide) rfl) (cm_gi h2 rfl (by decide) (by first | decide +kernel | rfl)) ?_
  refine a_icmp_ge 86 dX11_provableBy_63 (by decide) (fun _ => ?_) (fun c => absurd (by decide) c)
  refine a_aload_n dX11_provableBy_86 rfl rfl ?_
  refine a_iconst (v := 0) dX11_provableBy_87 (by decide) ?_
  refine a_iload_n dX11_provableBy_88 rfl rfl ?_
  refine a_iload_n dX11_provableBy_89 rfl rfl ?_
  refine a_callV (As := [.int 0, .int 0, .int 0]) (st := []) (a := 89) (ci := 11) (bc := 0) (bs := 0) (mc := 0) (ms := 0) false dX11_provableBy_90 mw_X11_canProve rfl (Or.inl ⟨rfl, ml_X11_447⟩) im_X11_canProve se_X11_canProve (by decide) (cm_l h2 (by decide)) (cm_s h2 (by decide) rfl) rfl (Nat.le_of_ble_eq_true rfl) (z2108_X11_canProve (fr := fr)  h2) (fun v M3 hq => ?_)
  obtain ⟨rfl, h3⟩ := hq
  show AW X _ 0 0 93 _ [.int 0] _ _
  refine a_istore dX11_provableBy_93 (Nat.le_of_ble_eq_true rfl) (lv2 := [(4, .int 0), (3, .int 0), (2, .int 1), (0, .ref 89), (1, .int 0)]) rfl ?_
  refine a_iload dX11_provableBy_95 rfl ?_
  refine a_if_eq 104 dX11_provableBy_97 (by decide) (fun _ => ?_) (fun c => absurd (by decide) c)
  refine a_iconst (v := 0) dX11_provableBy_104 (by decide) ?_
  exact a_iret dX11_provableBy_105 rfl ⟨rfl, h3⟩
set_option maxHeartbeats 4000000 in
set_option maxRecDepth 100000 in
theorem q_provable {X : Nat × (Nat → Int32)} {fr : Nat} {M : Mem}  (h0 : Cm fs42 M) : AM yX11_provable cX11_provable 1 (some .int) true (fr + 12) 0 0 X [.ref 89] M (fun v M1 => v = some (.int 0) ∧ True) := by
  refine AM.of false (by decide +kernel) (by intro h; cases h) (Nat.le_of_ble_eq_true rfl) ?_
  show AW X (RX11, cX11_provable, 1, (some .int), false, true, fr + 12) 0 0 0 [(0, .ref 89)] [] M _
  refine a_aload_n dX11_provable_0 rfl rfl ?_
  refine a_iconst (v := 0) dX11_provable_1 (by decide) ?_
  refine a_putI dX11_provable_2 (Or.inl ⟨fl_11_1, Or.inl rfl⟩) rfl (cm_l h0 (by decide)) (cm_s h0 (by decide) rfl) rfl rfl ?_
  have h1 : Cm (up2 fs42 89 0 0) (wI M 89 0 0) := cm_I h0 (by decide)
  generalize (wI M 89 0 0) = M1 at h1 ⊢
  refine a_aload_n dX11_provable_5 rfl rfl ?_
  refine a_iconst (v := 0) dX11_provable_6 (by decide) ?_
  refine a_putI dX11_provable_7 (Or.inl ⟨fl_11_151, Or.inl rfl⟩) rfl (cm_l h1 (by decide)) (cm_s h1 (by decide) rfl) rfl rfl ?_
  have h2 : Cm (up2 (up2 fs42 89 0 0) 89 24 0) (wI M1 89 24 0) := cm_I h1 (by decide)
  generalize (wI M1 89 24 0) = M2 at h2 ⊢
  refine a_aload_n dX11_provable_10 rfl rfl ?_
  refine a_callV (As := []) (st := []) (a := 89) (ci := 11) (bc := 0) (bs := 0) (mc := 0) (ms := 0) false dX11_provable_11 mw_X11_tidies rfl (Or.inl ⟨rfl, ml_X11_198⟩) im_X11_tidies se_X11_tidies (by decide) (cm_l h2 (by decide)) (cm_s h2 (by decide) rfl) rfl (Nat.le_of_ble_eq_true rfl) (z2105_X11_tidies (fr := fr)  h2) (fun v M3 hq => ?_)
  obtain ⟨rfl, h3⟩ := hq
  refine a_aload_n dX11_provable_14 rfl rfl ?_
  refine a_aload_n dX11_provable_15 rfl rfl ?_
  refine a_get (v := .int 0) dX11_provable_16 fl_11_134 (cm_l h3 (by decide)) (cm_s h3 (by decide) rfl) (cm_gi h3 rfl (by decide) (by first | decide +kernel | rfl)) ?_
  refine a_callV (As := [.int 0]) (st := []) (a := 89) (ci := 11) (bc := 0) (bs := 0) (mc := 0) (ms := 0) false dX11_provable_19 mw_X11_provableBy rfl (Or.inl ⟨rfl, ml_X11_453⟩) im_X11_provableBy se_X11_provableBy (by decide) (cm_l h3 (by decide)) (cm_s h3 (by decide) rfl) rfl (Nat.le_of_ble_eq_true rfl) (z2106_X11_provableBy (fr := fr)  h3) (fun v M4 hq => ?_)
  obtain ⟨rfl, h4⟩ := hq
  show AW X _ 0 0 22 _ [.int 0] _ _
  exact a_iret dX11_provable_22 rfl ⟨by first | rfl | decide +kernel | simp [*], trivial⟩
