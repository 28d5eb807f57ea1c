set_option maxHeartbeats 4000000 in
set_option maxRecDepth 100000 in
theorem z2060_X11_isEmpty {X : Nat × (Nat → Int32)} {fr : Nat} {M : Mem} (w : Int32) (h0 : Cm (up2 fs42 89 0 0) M) : AM yX11_isEmpty cX11_isEmpty 2 (some .boolean) true (fr + 11) 0 0 X [.ref 89, .int 3] M (fun v M1 => v = some (.int 1) ∧ Cm (up2 fs42 89 0 0) M1) := by
  refine AM.of false (by decide +kernel) (by intro h; cases h) (Nat.le_of_ble_eq_true rfl) ?_
  show AW X (RX11, cX11_isEmpty, 2, (some .boolean), false, true, fr + 11) 0 0 0 [(0, .ref 89), (1, .int 3)] [] M _
  refine a_aload_n dX11_isEmpty_0 rfl rfl ?_
  refine a_get (v := .ref 104) dX11_isEmpty_1 fl_11_56 (cm_l h0 (by decide)) (cm_s h0 (by decide) rfl) (cm_g h0 rfl (by decide +kernel)) ?_
  refine a_iload_n dX11_isEmpty_4 rfl rfl ?_
  refine a_iaload dX11_isEmpty_5 (cm_l h0 (by decide)) (cm_s h0 (by decide) rfl) (by unfold vp_in; decide +kernel) ?_
  rw [show M.2.2.1 104 (Int32.toNatClampNeg 3) = 0 from (cm_i h0 (by decide)).trans (by first | decide +kernel | rfl)]
  refine a_if_ne 13 dX11_isEmpty_6 (by decide) (fun c => absurd (by decide) c) (fun _ => ?_)
  refine a_iconst (v := 1) dX11_isEmpty_9 (by decide) ?_
  refine a_goto 14 dX11_isEmpty_10 (by decide) ?_
  exact a_zret dX11_isEmpty_14 rfl (by first | decide | (split <;> rfl)) ⟨rfl, h0⟩
set_option maxHeartbeats 4000000 in
set_option maxRecDepth 100000 in
theorem q_length_3 {X : Nat × (Nat → Int32)} {fr : Nat} {M : Mem} (w : Int32) (h0 : Cm fs42 M) : AM yX11_length cX11_length 3 (some .int) true (fr + 12) 0 0 X [.ref 89, .int 3, .int w] M (fun v M1 => v = some (.int (if w < 0 then -2 else if w ≤ 2 then -5 else -2)) ∧ True) := by
  refine AM.of false (by decide +kernel) (by intro h; cases h) (Nat.le_of_ble_eq_true rfl) ?_
  show AW X (RX11, cX11_length, 3, (some .int), false, true, fr + 12) 0 0 0 [(0, .ref 89), (1, .int 3), (2, .int w)] [] M _
  refine a_aload_n dX11_length_0 rfl rfl ?_
  refine a_iconst (v := 0) dX11_length_1 (by decide) ?_
  refine a_putI dX11_length_2 (Or.inl ⟨fl_11_1, Or.inl rfl⟩) rfl (cm_l h0 (by decide)) (cm_s h0 (by decide) rfl) rfl rfl ?_
  have h1 : Cm (up2 fs42 89 0 0) (wI M 89 0 0) := cm_I h0 (by decide)
  generalize (wI M 89 0 0) = M1 at h1 ⊢
  refine a_iload_n dX11_length_5 rfl rfl ?_
  refine a_callS (As := [.int 3]) (st := []) (bc := 0) (bs := 0) (mc := 0) (ms := 0) false dX11_length_6 mw_X11_isSlot rfl (Or.inl ⟨rfl, ml_X11_271⟩) sm_X11_isSlot rfl (Nat.le_of_ble_eq_true rfl) (z2059_X11_isSlot (fr := fr) w h1) (fun v M2 hq => ?_)
  obtain ⟨rfl, h2⟩ := hq
  show AW X _ 0 0 9 _ [.int 1] _ _
  refine a_if_eq 24 dX11_length_9 (by decide) (fun c => absurd c (by decide)) (fun _ => ?_)
  refine a_iload_n dX11_length_12 rfl rfl ?_
  refine a_i2l dX11_length_13 ?_
  refine a_lconst (v := 0) dX11_length_14 (by decide) ?_
  refine a_ldc2 dX11_length_15 co_X11_392 ?_
  refine a_callS (As := [.long (Int32.toInt64 w), .long 0, .long 2]) (st := []) (bc := 0) (bs := 0) (mc := 0) (ms := 0) false dX11_length_18 mw_X11_isIn rfl (Or.inl ⟨rfl, ml_X11_180⟩) sm_X11_isIn rfl (Nat.le_of_ble_eq_true rfl) (k_isIn (fr := fr + 11) (Int32.toInt64 w) 0 2) (fun v M1 hq => ?_)
  obtain ⟨rfl, hM1⟩ := hq
  rw [hM1]
  clear hM1 M1
  refine a_st (st2 := [.int (if w < 0 then 0 else if w ≤ 2 then 1 else 0)]) (by exact congrArg (fun z => Value.int z :: []) (isin_w w 2)) ?_
  refine a_if_ne 27 dX11_length_21 (by decide) (fun c3 => ?_) (fun c3 => ?_)
  · refine a_aload_n dX11_length_27 rfl rfl ?_
    refine a_iload_n dX11_length_28 rfl rfl ?_
    refine a_callV (As := [.int 3]) (st := []) (a := 89) (ci := 11) (bc := 0) (bs := 0) (mc := 0) (ms := 0) false dX11_length_29 mw_X11_isEmpty rfl (Or.inl ⟨rfl, ml_X11_343⟩) im_X11_isEmpty se_X11_isEmpty (by decide) (cm_l h2 (by decide)) (cm_s h2 (by decide) rfl) rfl (Nat.le_of_ble_eq_true rfl) (z2060_X11_isEmpty (fr := fr) w h2) (fun v M4 hq => ?_)
    obtain ⟨rfl, h4⟩ := hq
    show AW X _ 0 0 32 _ [.int 1] _ _
    refine a_if_eq 38 dX11_length_32 (by decide) (fun c => absurd c (by decide)) (fun _ => ?_)
    refine a_bipush (v := (-5)) dX11_length_35 (by decide) ?_
    exact a_iret dX11_length_37 rfl ⟨by solve | rfl | (by_cases q0 : w < 0 <;> by_cases q1 : w ≤ 2 <;> simp_all [-Int32.not_lt, -Int32.not_le]), trivial⟩
  · refine a_bipush (v := (-2)) dX11_length_24 (by decide) ?_
    exact a_iret dX11_length_26 rfl ⟨by solve | rfl | (by_cases q0 : w < 0 <;> by_cases q1 : w ≤ 2 <;> simp_all [-Int32.not_lt, -Int32.not_le]), trivial⟩
set_option maxHeartbeats 4000000 in
set_option maxRecDepth 100000 in
theorem q_size_b {X : Nat × (Nat → Int32)} {fr : Nat} {M : Mem} (x : Int32) (w : Int32) (hb_x : x < 0 ∨ 4 ≤ x) (h0 : Cm fs42 M) : AM yX11_size cX11_size 5 (some .int) true (fr + 12) 0 0 X [.ref 89, .int x, .int w] M (fun v M1 => v = some (.int (-2)) ∧ True) := by
  refine AM.of false (by decide +kernel) (by intro h; cases h) (Nat.le_of_ble_eq_true rfl) ?_
  show AW X (RX11, cX11_size, 5, (some .int), false, true, fr + 12) 0 0 0 [(0, .ref 89), (1, .int x), (2, .int w)] [] M _
  refine a_aload_n dX11_size_0 rfl rfl ?_
  refine a_iconst (v := 0) dX11_size_1 (by decide) ?_
  refine a_putI dX11_size_2 (Or.inl ⟨fl_11_1, Or.inl rfl⟩) rfl (cm_l h0 (by decide)) (cm_s h0 (by decide) rfl) rfl rfl ?_
  have h1 : Cm (up2 fs42 89 0 0) (wI M 89 0 0) := cm_I h0 (by decide)
  generalize (wI M 89 0 0) = M1 at h1 ⊢
  refine a_iload_n dX11_size_5 rfl rfl ?_
  refine a_callS (As := [.int x]) (st := []) (bc := 0) (bs := 0) (mc := 0) (ms := 0) false dX11_size_6 mw_X11_isSlot rfl (Or.inl ⟨rfl, ml_X11_271⟩) sm_X11_isSlot rfl (Nat.le_of_ble_eq_true rfl) (z2052_X11_isSlot (fr := fr) x w hb_x h1) (fun v M2 hq => ?_)
  obtain ⟨rfl, h2⟩ := hq
  show AW X _ 0 0 9 _ [.int 0] _ _
  refine a_if_eq 24 dX11_size_9 (by decide) (fun _ => ?_) (fun c => absurd (by decide) c)
  refine a_bipush (v := (-2)) dX11_size_24 (by decide) ?_
  exact a_iret dX11_size_26 rfl ⟨by first | rfl | decide +kernel | simp [*], trivial⟩
set_option maxHeartbeats 4000000 in
set_option maxRecDepth 100000 in
theorem q_size_0 {X : Nat × (Nat → Int32)} {fr : Nat} {M : Mem} (w : Int32) (h0 : Cm fs42 M) : AM yX11_size cX11_size 5 (some .int) true (fr + 12) 0 0 X [.ref 89, .int 0, .int w] M (fun v M1 => v = some (.int (if w < 0 then -2 else if w ≤ 6 then -5 else -2)) ∧ True) := by
  refine AM.of false (by decide +kernel) (by intro h; cases h) (Nat.le_of_ble_eq_true rfl) ?_
  show AW X (RX11, cX11_size, 5, (some .int), false, true, fr + 12) 0 0 0 [(0, .ref 89), (1, .int 0), (2, .int w)] [] M _
  refine a_aload_n dX11_size_0 rfl rfl ?_
  refine a_iconst (v := 0) dX11_size_1 (by decide) ?_
  refine a_putI dX11_size_2 (Or.inl ⟨fl_11_1, Or.inl rfl⟩) rfl (cm_l h0 (by decide)) (cm_s h0 (by decide) rfl) rfl rfl ?_
  have h1 : Cm (up2 fs42 89 0 0) (wI M 89 0 0) := cm_I h0 (by decide)
  generalize (wI M 89 0 0) = M1 at h1 ⊢
  refine a_iload_n dX11_size_5 rfl rfl ?_
  refine a_callS (As := [.int 0]) (st := []) (bc := 0) (bs := 0) (mc := 0) (ms := 0) false dX11_size_6 mw_X11_isSlot rfl (Or.inl ⟨rfl, ml_X11_271⟩) sm_X11_isSlot rfl (Nat.le_of_ble_eq_true rfl) (z2053_X11_isSlot (fr := fr) w h1) (fun v M2 hq => ?_)
  obtain ⟨rfl, h2⟩ := hq
  show AW X _ 0 0 9 _ [.int 1] _ _
  refine a_if_eq 24 dX11_size_9 (by decide) (fun c => absurd c (by decide)) (fun _ => ?_)
  refine a_iload_n dX11_size_12 rfl rfl ?_
  refine a_i2l dX11_size_13 ?_
  refine a_lconst (v := 0) dX11_size_14 (by decide) ?_
  refine a_ldc2 dX11_size_15 co_X11_400 ?_
  refine a_callS (As := [.long (Int32.toInt64 w), .long 0, .long 6]) (st := []) (bc := 0) (bs := 0) (mc := 0) (ms := 0) false dX11_size_18 mw_X11_isIn rfl (Or.inl ⟨rfl, ml_X11_180⟩) sm_X11_isIn rfl (Nat.le_of_ble_eq_true rfl) (k_isIn (fr := fr + 11) (Int32.toInt64 w) 0 6) (fun v M1 hq => ?_)
  obtain ⟨rfl, hM1⟩ := hq
  rw [hM1]
  clear hM1 M1
  refine a_st (st2 := [.int (if w < 0 then 0 else if w ≤ 6 then 1 else 0)]) (by exact congrArg (fun z => Value.int z :: []) (isin_w w 6)) ?_
  refine a_if_ne 27 dX11_size_21 (by decide) (fun c3 => ?_) (fun c3 => ?_)
  · refine a_aload_n dX11_size_27 rfl rfl ?_
    refine a_iload_n dX11_size_28 rfl rfl ?_
    refine a_callV (As := [.int 0]) (st := []) (a := 89) (ci := 11) (bc := 0) (bs := 0) (mc := 0) (ms := 0) false dX11_size_29 mw_X11_isEmpty rfl (Or.inl ⟨rfl, ml_X11_343⟩) im_X11_isEmpty se_X11_isEmpty (by decide) (cm_l h2 (by decide)) (cm_s h2 (by decide) rfl) rfl (Nat.le_of_ble_eq_true rfl) (z2054_X11_isEmpty (fr := fr) w h2) (fun v M4 hq => ?_)
    obtain ⟨rfl, h4⟩ := hq
    show AW X _ 0 0 32 _ [.int 1] _ _
    refine a_if_eq 38 dX11_size_32 (by decide) (fun c => absurd c (by decide)) (fun _ => ?_)
    refine a_bipush (v := (-5)) dX11_size_35 (by decide) ?_
    exact a_iret dX11_size_37 rfl ⟨by solve | rfl | (by_cases q0 : w < 0 <;> by_cases q1 : w ≤ 6 <;> simp_all [-Int32.not_lt, -Int32.not_le]), trivial⟩
  · refine a_bipush (v := (-2)) dX11_size_24 (by decide) ?_
    exact a_iret dX11_size_26 rfl ⟨by solve | rfl | (by_cases q0 : w < 0 <;> by_cases q1 : w ≤ 6 <;> simp_all [-Int32.not_lt, -Int32.not_le]), trivial⟩
set_option maxHeartbeats 4000000 in
set_option maxRecDepth 100000 in
theorem q_size_1 {X : Nat × (Nat → Int32)} {fr : Nat} {M : Mem} (w : Int32) (h0 : Cm fs42 M) : AM yX11_size cX11_size 5 (some .int) true (fr + 12) 0 0 X [.ref 89, .int 1, .int w] M (fun v M1 => v = some (.int (if w < 0 then -2 else if w ≤ 6 then -5 else -2)) ∧ True) := by
  refine AM.of false (by decide +kernel) (by intro h; cases h) (Nat.le_of_ble_eq_true rfl) ?_
  show AW X (RX11, cX11_size, 5, (some .int), false, true, fr + 12) 0 0 0 [(0, .ref 89), (1, .int 1), (2, .int w)] [] M _
  refine a_aload_n dX11_size_0 rfl rfl ?_
  refine a_iconst (v := 0) dX11_size_1 (by decide) ?_
  refine a_putI dX11_size_2 (Or.inl ⟨fl_11_1, Or.inl rfl⟩) rfl (cm_l h0 (by decide)) (cm_s h0 (by decide) rfl) rfl rfl ?_
  have h1 : Cm (up2 fs42 89 0 0) (wI M 89 0 0) := cm_I h0 (by decide)
  generalize (wI M 89 0 0) = M1 at h1 ⊢
  refine a_iload_n dX11_size_5 rfl rfl ?_
  refine a_callS (As := [.int 1]) (st := []) (bc := 0) (bs := 0) (mc := 0) (ms := 0) false dX11_size_6 mw_X11_isSlot rfl (Or.inl ⟨rfl, ml_X11_271⟩) sm_X11_isSlot rfl (Nat.le_of_ble_eq_true rfl) (z2055_X11_isSlot (fr := fr) w h1) (fun v M2 hq => ?_)
  obtain ⟨rfl, h2⟩ := hq
  show AW X _ 0 0 9 _ [.int 1] _ _
  refine a_if_eq 24 dX11_size_9 (by decide) (fun c => absurd c (by decide)) (fun _ => ?_)
  refine a_iload_n dX11_size_12 rfl rfl ?_
  refine a_i2l dX11_size_13 ?_
  refine a_lconst (v := 0) dX11_size_14 (by decide) ?_
  refine a_ldc2 dX11_size_15 co_X11_400 ?_
  refine a_callS (As := [.long (Int32.toInt64 w), .long 0, .long 6]) (st := []) (bc := 0) (bs := 0) (mc := 0) (ms := 0) false dX11_size_18 mw_X11_isIn rfl (Or.inl ⟨rfl, ml_X11_180⟩) sm_X11_isIn rfl (Nat.le_of_ble_eq_true rfl) (k_isIn (fr := fr + 11) (Int32.toInt64 w) 0 6) (fun v M1 hq => ?_)
  obtain ⟨rfl, hM1⟩ := hq
  rw [hM1]
  clear hM1 M1
  refine a_st (st2 := [.int (if w < 0 then 0 else if w ≤ 6 then 1 else 0)]) (by exact congrArg (fun z => Value.int z :: []) (isin_w w 6)) ?_
  refine a_if_ne 27 dX11_size_21 (by decide) (fun c3 => ?_) (fun c3 => ?_)
  · refine a_aload_n dX11_size_27 rfl rfl ?_
    refine a_iload_n dX11_size_28 rfl rfl ?_
    refine a_callV (As := [.int 1]) (st := []) (a := 89) (ci := 11) (bc := 0) (bs := 0) (mc := 0) (ms := 0) false dX11_size_29 mw_X11_isEmpty rfl (Or.inl ⟨rfl, ml_X11_343⟩) im_X11_isEmpty se_X11_isEmpty (by decide) (cm_l h2 (by decide)) (cm_s h2 (by decide) rfl) rfl (Nat.le_of_ble_eq_true rfl) (z2056_X11_isEmpty (fr := fr) w h2) (fun v M4 hq => ?_)
    obtain ⟨rfl, h4⟩ := hq
    show AW X _ 0 0 32 _ [.int 1] _ _
    refine a_if_eq 38 dX11_size_32 (by decide) (fun c => absurd c (by decide)) (fun _ => ?_)
    refine a_bipush (v := (-5)) dX11_size_35 (by decide) ?_
    exact a_iret dX11_size_37 rfl ⟨by solve | rfl | (by_cases q0 : w < 0 <;> by_cases q1 : w ≤ 6 <;> simp_all [-Int32.not_lt, -Int32.not_le]), trivial⟩
  · refine a_bipush (v := (-2)) dX11_size_24 (by decide) ?_
    exact a_iret dX11_size_26 rfl ⟨by solve | rfl | (by_cases q0 : w < 0 <;> by_cases q1 : w ≤ 6 <;> simp_all [-Int32.not_lt, -Int32.not_le]), trivial⟩
set_option maxHeartbeats 4000000 in
set_option maxRecDepth 100000 in
theorem q_size_2 {X : Nat × (Nat → Int32)} {fr : Nat} {M : Mem} (w : Int32) (h0 : Cm fs42 M) : AM yX11_size cX11_size 5 (some .int) true (fr + 12) 0 0 X [.ref 89, .int 2, .int w] M (fun v M1 => v = some (.int (if w < 0 then -2 else if w ≤ 6 then -5 else -2)) ∧ True) := by
  refine AM.of false (by decide +kernel) (by intro h; cases h) (Nat.le_of_ble_eq_true rfl) ?_
  show AW X (RX11, cX11_size, 5, (some .int), false, true, fr + 12) 0 0 0 [(0, .ref 89), (1, .int 2), (2, .int w)] [] M _
  refine a_aload_n dX11_size_0 rfl rfl ?_
  refine a_iconst (v := 0) dX11_size_1 (by decide) ?_
  refine a_putI dX11_size_2 (Or.inl ⟨fl_11_1, Or.inl rfl⟩) rfl (cm_l h0 (by decide)) (cm_s h0 (by decide) rfl) rfl rfl ?_
  have h1 : Cm (up2 fs42 89 0 0) (wI M 89 0 0) := cm_I h0 (by decide)
  generalize (wI M 89 0 0) = M1 at h1 ⊢
  refine a_iload_n dX11_size_5 rfl rfl ?_
  refine a_callS (As := [.int 2]) (st := []) (bc := 0) (bs := 0) (mc := 0) (ms := 0) false dX11_size_6 mw_X11_isSlot rfl (Or.inl ⟨rfl, ml_X11_271⟩) sm_X11_isSlot rfl (Nat.le_of_ble_eq_true rfl) (z2057_X11_isSlot (fr := fr) w h1) (fun v M2 hq => ?_)
  obtain ⟨rfl, h2⟩ := hq
  show AW X _ 0 0 9 _ [.int 1] _ _
  refine a_if_eq 24 dX11_size_9 (by decide) (fun c => absurd c (by decide)) (fun _ => ?_)
  refine a_iload_n dX11_size_12 rfl rfl ?_
  refine a_i2l dX11_size_13 ?_
  refine a_lconst (v := 0) dX11_size_14 (by decide) ?_
  refine a_ldc2 dX11_size_15 co_X11_400 ?_
  refine a_callS (As := [.long (Int32.toInt64 w), .long 0, .long 6]) (st := []) (bc := 0) (bs := 0) (mc := 0) (ms := 0) false dX11_size_18 mw_X11_isIn rfl (Or.inl ⟨rfl, ml_X11_180⟩) sm_X11_isIn rfl (Nat.le_of_ble_eq_true rfl) (k_isIn (fr := fr + 11) (Int32.toInt64 w) 0 6) (fun v M1 hq => ?_)
  obtain ⟨rfl, hM1⟩ := hq
  rw [hM1]
  clear hM1 M1
  refine a_st (st2 := [.int (if w < 0 then 0 else if w ≤ 6 then 1 else 0)]) (by exact congrArg (fun z => Value.int z :: []) (isin_w w 6)) ?_
  refine a_if_ne 27 dX11_size_21 (by decide) (fun c3 => ?_) (fun c3 => ?_)
  · refine a_aload_n dX11_size_27 rfl rfl ?_
    refine a_iload_n dX11_size_28 rfl rfl ?_
    refine a_callV (As := [.int 2]) (st := []) (a := 89) (ci := 11) (bc := 0) (bs := 0) (mc := 0) (ms := 0) false dX11_size_29 mw_X11_isEmpty rfl (Or.inl ⟨rfl, ml_X11_343⟩) im_X11_isEmpty se_X11_isEmpty (by decide) (cm_l h2 (by decide)) (cm_s h2 (by decide) rfl) rfl (Nat.le_of_ble_eq_true rfl) (z2058_X11_isEmpty (fr := fr) w h2) (fun v M4 hq => ?_)
    obtain ⟨rfl, h4⟩ := hq
    show AW X _ 0 0 32 _ [.int 1] _ _
    refine a_if_eq 38 dX11_size_32 (by decide) (fun c => absurd c (by decide)) (fun _ => ?_)
    refine a_bipush (v := (-5)) dX11_size_35 (by decide) ?_
    exact a_iret dX11_size_37 rfl ⟨by solve | rfl | (by_cases q0 : w < 0 <;> by_cases q1 : w ≤ 6 <;> simp_all [-Int32.not_lt, -Int32.not_le]), trivial⟩
  · refine a_bipush (v := (-2)) dX11_size_24 (by decide) ?_
    exact a_iret dX11_size_26 rfl ⟨by solve | rfl | (by_cases q0 : w < 0 <;> by_cases q1 : w ≤ 6 <;> simp_all [-Int32.not_lt, -Int32.not_le]), trivial⟩
set_option maxHeartbeats 4000000 in
set_option maxRecDepth 100000 in
theorem q_size_3 {X : Nat × (Nat → Int32)} {fr : Nat} {M : Mem} (w : Int32) (h0 : Cm fs42 M) : AM yX11_size cX11_size 5 (some .int) true (fr + 12) 0 0 X [.ref 89, .int 3, .int w] M (fun v M1 => v = some (.int (if w < 0 then -2 else if w ≤ 6 then -5 else -2)) ∧ True) := by
  refine AM.of false (by decide +kernel) (by intro h; cases h) (Nat.le_of_ble_eq_true rfl) ?_
  show AW X (RX11, cX11_size, 5, (some .int), false, true, fr + 12) 0 0 0 [(0, .ref 89), (1, .int 3), (2, .int w)] [] M _
  refine a_aload_n dX11_size_0 rfl rfl ?_
  refine a_iconst (v := 0) dX11_size_1 (by decide) ?_
  refine a_putI dX11_size_2 (Or.inl ⟨fl_11_1, Or.inl rfl⟩) rfl (cm_l h0 (by decide)) (cm_s h0 (by decide) rfl) rfl rfl ?_
  have h1 : Cm (up2 fs42 89 0 0) (wI M 89 0 0) := cm_I h0 (by decide)
  generalize (wI M 89 0 0) = M1 at h1 ⊢
  refine a_iload_n dX11_size_5 rfl rfl ?_
  refine a_callS (As := [.int 3]) (st := []) (bc := 0) (bs := 0) (mc := 0) (ms := 0) false dX11_size_6 mw_X11_isSlot rfl (Or.inl ⟨rfl, ml_X11_271⟩) sm_X11_isSlot rfl (Nat.le_of_ble_eq_true rfl) (z2059_X11_isSlot (fr := fr) w h1) (fun v M2 hq => ?_)
  obtain ⟨rfl, h2⟩ := hq
  show AW X _ 0 0 9 _ [.int 1] _ _
  refine a_if_eq 24 dX11_size_9 (by decide) (fun c => absurd c (by decide)) (fun _ => ?_)
  refine a_iload_n dX11_size_12 rfl rfl ?_
  refine a_i2l dX11_size_13 ?_
  refine a_lconst (v := 0) dX11_size_14 (by decide) ?_
  refine a_ldc2 dX11_size_15 co_X11_400 ?_
  refine a_callS (As := [.long (Int32.toInt64 w), .long 0, .long 6]) (st := []) (bc := 0) (bs := 0) (mc := 0) (ms := 0) false dX11_size_18 mw_X11_isIn rfl (Or.inl ⟨rfl, ml_X11_180⟩) sm_X11_isIn rfl (Nat.le_of_ble_eq_true rfl) (k_isIn (fr := fr + 11) (Int32.toInt64 w) 0 6) (fun v M1 hq => ?_)
  obtain ⟨rfl, hM1⟩ := hq
  rw [hM1]
  clear hM1 M1
  refine a_st (st2 := [.int (if w < 0 then 0 else if w ≤ 6 then 1 else 0)]) (by exact congrArg (fun z => Value.int z :: []) (isin_w w 6)) ?_
  refine a_if_ne 27 dX11_size_21 (by decide) (fun c3 => ?_) (fun c3 => ?_)
  · refine a_aload_n dX11_size_27 rfl rfl ?_
    refine a_iload_n dX11_size_28 rfl rfl ?_
    refine a_callV (As := [.int 3]) (st := []) (a := 89) (ci := 11) (bc := 0) (bs := 0) (mc := 0) (ms := 0) false dX11_size_29 mw_X11_isEmpty rfl (Or.inl ⟨rfl, ml_X11_343⟩) im_X11_isEmpty se_X11_isEmpty (by decide) (cm_l h2 (by decide)) (cm_s h2 (by decide) rfl) rfl (Nat.le_of_ble_eq_true rfl) (z2060_X11_isEmpty (fr := fr) w h2) (fun v M4 hq => ?_)
    obtain ⟨rfl, h4⟩ := hq
    show AW X _ 0 0 32 _ [.int 1] _ _
    refine a_if_eq 38 dX11_size_32 (by decide) (fun c => absurd c (by decide)) (fun _ => ?_)
    refine a_bipush (v := (-5)) dX11_size_35 (by decide) ?_
    exact a_iret dX11_size_37 rfl ⟨by solve | rfl | (by_cases q0 : w < 0 <;> by_cases q1 : w ≤ 6 <;> simp_all [-Int32.not_lt, -Int32.not_le]), trivial⟩
  · refine a_bipush (v := (-2)) dX11_size_24 (by decide) ?_
    exact a_iret dX11_size_26 rfl ⟨by solve | rfl | (by_cases q0 : w < 0 <;> by_cases q1 : w ≤ 6 <;> simp_all [-Int32.not_lt, -Int32.not_le]), trivial⟩
set_option maxHeartbeats 4000000 in
set_option maxRecDepth 100000 in
theorem q_redexes_b {X : Nat × (Nat → Int32)} {fr : Nat} {M : Mem} (x : Int32) (w : Int32) (hb_x : x < 0 ∨ 4 ≤ x) (h0 : Cm fs42 M) : AM yX11_redexes cX11_redexes 3 (some .int) true (fr + 12) 0 0 X [.ref 89, .int x, .int w] M (fun v M1 => v = some (.int (-2)) ∧ True) := by
  refine AM.of false (by decide +kernel) (by intro h; cases h) (Nat.le_of_ble_eq_true rfl) ?_
  show AW X (RX11, cX11_redexes, 3, (some .int), false, true, fr + 12) 0 0 0 [(0, .ref 89), (1, .int x), (2, .int w)] [] M _
  refine a_aload_n dX11_redexes_0 rfl rfl ?_
  refine a_iconst (v := 0) dX11_redexes_1 (by decide) ?_
  refine a_putI dX11_redexes_2 (Or.inl ⟨fl_11_1, Or.inl rfl⟩) rfl (cm_l h0 (by decide)) (cm_s h0 (by decide) rfl) rfl rfl ?_
  have h1 : Cm (up2 fs42 89 0 0) (wI M 89 0 0) := cm_I h0 (by decide)
  generalize (wI M 89 0 0) = M1 at h1 ⊢
  refine a_iload_n dX11_redexes_5 rfl rfl ?_
  refine a_callS (As := [.int x]) (st := []) (bc := 0) (bs := 0) (mc := 0) (ms := 0) false dX11_redexes_6 mw_X11_isSlot rfl (Or.inl ⟨rfl, ml_X11_271⟩) sm_X11_isSlot rfl (Nat.le_of_ble_eq_true rfl) (z2052_X11_isSlot (fr := fr) x w hb_x h1) (fun v M2 hq => ?_)
  obtain ⟨rfl, h2⟩ := hq
  show AW X _ 0 0 9 _ [.int 0] _ _
  refine a_if_eq 24 dX11_redexes_9 (by decide) (fun _ => ?_) (fun c => absurd (by decide) c)
  refine a_bipush (v := (-2)) dX11_redexes_24 (by decide) ?_
  exact a_iret dX11_redexes_26 rfl ⟨by first | rfl | decide +kernel | simp [*], trivial⟩
set_option maxHeartbeats 4000000 in
set_option maxRecDepth 100000 in
theorem q_redexes_0 {X : Nat × (Nat → Int32)} {fr : Nat} {M : Mem} (w : Int32) (h0 : Cm fs42 M) : AM yX11_redexes cX11_redexes 3 (some .int) true (fr + 12) 0 0 X [.ref 89, .int 0, .int w] M (fun v M1 => v = some (.int (if w < 0 then -2 else if w ≤ 7 then -5 else -2)) ∧ True) := by
  refine AM.of false (by decide +kernel) (by intro h; cases h) (Nat.le_of_ble_eq_true rfl) ?_
  show AW X (RX11, cX11_redexes, 3, (some .int), false, true, fr + 12) 0 0 0 [(0, .ref 89), (1, .int 0), (2, .int w)] [] M _
  refine a_aload_n dX11_redexes_0 rfl rfl ?_
  refine a_iconst (v := 0) dX11_redexes_1 (by decide) ?_
  refine a_putI dX11_redexes_2 (Or.inl ⟨fl_11_1, Or.inl rfl⟩) rfl (cm_l h0 (by decide)) (cm_s h0 (by decide) rfl) rfl rfl ?_
  have h1 : Cm (up2 fs42 89 0 0) (wI M 89 0 0) := cm_I h0 (by decide)
  generalize (wI M 89 0 0) = M1 at h1 ⊢
  refine a_iload_n dX11_redexes_5 rfl rfl ?_
  refine a_callS (As := [.int 0]) (st := []) (bc := 0) (bs := 0) (mc := 0) (ms := 0) false dX11_redexes_6 mw_X11_isSlot rfl (Or.inl ⟨rfl, ml_X11_271⟩) sm_X11_isSlot rfl (Nat.le_of_ble_eq_true rfl) (z2053_X11_isSlot (fr := fr) w h1) (fun v M2 hq => ?_)
  obtain ⟨rfl, h2⟩ := hq
  show AW X _ 0 0 9 _ [.int 1] _ _
  refine a_if_eq 24 dX11_redexes_9 (by decide) (fun c => absurd c (by decide)) (fun _ => ?_)
  refine a_iload_n dX11_redexes_12 rfl rfl ?_
  refine a_i2l dX11_redexes_13 ?_
  refine a_lconst (v := 0) dX11_redexes_14 (by decide) ?_
  refine a_ldc2 dX11_redexes_15 co_X11_409 ?_
  refine a_callS (As := [.long (Int32.toInt64 w), .long 0, .long 7]) (st := []) (bc := 0) (bs := 0) (mc := 0) (ms := 0) false dX11_redexes_18 mw_X11_isIn rfl (Or.inl ⟨rfl, ml_X11_180⟩) sm_X11_isIn rfl (Nat.le_of_ble_eq_true rfl) (k_isIn (fr := fr + 11) (Int32.toInt64 w) 0 7) (fun v M1 hq => ?_)
  obtain ⟨rfl, hM1⟩ := hq
  rw [hM1]
  clear hM1 M1
  refine a_st (st2 := [.int (if w < 0 then 0 else if w ≤ 7 then 1 else 0)]) (by exact congrArg (fun z => Value.int z :: []) (isin_w w 7)) ?_
  refine a_if_ne 27 dX11_redexes_21 (by decide) (fun c3 => ?_) (fun c3 => ?_)
  · refine a_aload_n dX11_redexes_27 rfl rfl ?_
    refine a_iload_n dX11_redexes_28 rfl rfl ?_
    refine a_callV (As := [.int 0]) (st := []) (a := 89) (ci := 11) (bc := 0) (bs := 0) (mc := 0) (ms := 0) false dX11_redexes_29 mw_X11_isEmpty rfl (Or.inl ⟨rfl, ml_X11_343⟩) im_X11_isEmpty se_X11_isEmpty (by decide) (cm_l h2 (by decide)) (cm_s h2 (by decide) rfl) rfl (Nat.le_of_ble_eq_true rfl) (z2054_X11_isEmpty (fr := fr) w h2) (fun v M4 hq => ?_)
    obtain ⟨rfl, h4⟩ := hq
    show AW X _ 0 0 32 _ [.int 1] _ _
    refine a_if_eq 38 dX11_redexes_32 (by decide) (fun c => absurd c (by decide)) (fun _ => ?_)
    refine a_bipush (v := (-5)) dX11_redexes_35 (by decide) ?_
    exact a_iret dX11_redexes_37 rfl ⟨by solve | rfl | (by_cases q0 : w < 0 <;> by_cases q1 : w ≤ 7 <;> simp_all [-Int32.not_lt, -Int32.not_le]), trivial⟩
  · refine a_bipush (v := (-2)) dX11_redexes_24 (by decide) ?_
    exact a_iret dX11_redexes_26 rfl ⟨by solve | rfl | (by_cases q0 : w < 0 <;> by_cases q1 : w ≤ 7 <;> simp_all [-Int32.not_lt, -Int32.not_le]), trivial⟩
set_option maxHeartbeats 4000000 in
set_option maxRecDepth 100000 in
theorem q_redexes_1 {X : Nat × (Nat → Int32)} {fr : Nat} {M : Mem} (w : Int32) (h0 : Cm fs42 M) : AM yX11_redexes cX11_redexes 3 (some .int) true (fr + 12) 0 0 X [.ref 89, .int 1, .int w] M (fun v M1 => v = some (.int (if w < 0 then -2 else if w ≤ 7 then -5 else -2)) ∧ True) := by
  refine AM.of false (by decide +kernel) (by intro h; cases h) (Nat.le_of_ble_eq_true rfl) ?_
  show AW X (RX11, cX11_redexes, 3, (some .int), false, true, fr + 12) 0 0 0 [(0, .ref 89), (1, .int 1), (2, .int w)] [] M _
  refine a_aload_n dX11_redexes_0 rfl rfl ?_
  refine a_iconst (v := 0) dX11_redexes_1 (by decide) ?_
  refine a_putI dX11_redexes_2 (Or.inl ⟨fl_11_1, Or.inl rfl⟩) rfl (cm_l h0 (by decide)) (cm_s h0 (by decide) rfl) rfl rfl ?_
  have h1 : Cm (up2 fs42 89 0 0) (wI M 89 0 0) := cm_I h0 (by decide)
  generalize (wI M 89 0 0) = M1 at h1 ⊢
  refine a_iload_n dX11_redexes_5 rfl rfl ?_
  refine a_callS (As := [.int 1]) (st := []) (bc := 0) (bs := 0) (mc := 0) (ms := 0) false dX11_redexes_6 mw_X11_isSlot rfl (Or.inl ⟨rfl, ml_X11_271⟩) sm_X11_isSlot rfl (Nat.le_of_ble_eq_true rfl) (z2055_X11_isSlot (fr := fr) w h1) (fun v M2 hq => ?_)
  obtain ⟨rfl, h2⟩ := hq
  show AW X _ 0 0 9 _ [.int 1] _ _
  refine a_if_eq 24 dX11_redexes_9 (by decide) (fun c => absurd c (by decide)) (fun _ => ?_)
  refine a_iload_n dX11_redexes_12 rfl rfl ?_
  refine a_i2l dX11_redexes_13 ?_
  refine a_lconst (v := 0) dX11_redexes_14 (by decide) ?_
  refine a_ldc2 dX11_redexes_15 co_X11_409 ?_
  refine a_callS (As := [.long (Int32.toInt64 w), .long 0, .long 7]) (st := []) (bc := 0) (bs := 0) (mc := 0) (ms := 0) false dX11_redexes_18 mw_X11_isIn rfl (Or.inl ⟨rfl, ml_X11_180⟩) sm_X11_isIn rfl (Nat.le_of_ble_eq_true rfl) (k_isIn (fr := fr + 11) (Int32.toInt64 w) 0 7) (fun v M1 hq => ?_)
  obtain ⟨rfl, hM1⟩ := hq
  rw [hM1]
  clear hM1 M1
  refine a_st (st2 := [.int (if w < 0 then 0 else if w ≤ 7 then 1 else 0)]) (by exact congrArg (fun z => Value.int z :: []) (isin_w w 7)) ?_
  refine a_if_ne 27 dX11_redexes_21 (by decide) (fun c3 => ?_) (fun c3 => ?_)
  · refine a_aload_n dX11_redexes_27 rfl rfl ?_
    refine a_iload_n dX11_redexes_28 rfl rfl ?_
    refine a_callV (As := [.int 1]) (st := []) (a := 89) (ci := 11) (bc := 0) (bs := 0) (mc := 0) (ms := 0) false dX11_redexes_29 mw_X11_isEmpty rfl (Or.inl ⟨rfl, ml_X11_343⟩) im_X11_isEmpty se_X11_isEmpty (by decide) (cm_l h2 (by decide)) (cm_s h2 (by decide) rfl) rfl (Nat.le_of_ble_eq_true rfl) (z2056_X11_isEmpty (fr := fr) w h2) (fun v M4 hq => ?_)
    obtain ⟨rfl, h4⟩ := hq
    show AW X _ 0 0 32 _ [.int 1] _ _
    refine a_if_eq 38 dX11_redexes_32 (by decide) (fun c => absurd c (by decide)) (fun _ => ?_)
    refine a_bipush (v := (-5)) dX11_redexes_35 (by decide) ?_
    exact a_iret dX11_redexes_37 rfl ⟨by solve | rfl | (by_cases q0 : w < 0 <;> by_cases q1 : w ≤ 7 <;> simp_all [-Int32.not_lt, -Int32.not_le]), trivial⟩
  · refine a_bipush (v := (-2)) dX11_redexes_24 (by decide) ?_
    exact a_iret dX11_redexes_26 rfl ⟨by solve | rfl | (by_cases q0 : w < 0 <;> by_cases q1 : w ≤ 7 <;> simp_all [-Int32.not_lt, -Int32.not_le]), trivial⟩
set_option maxHeartbeats 4000000 in
set_option maxRecDepth 100000 in
theorem q_redexes_2 {X : Nat × (Nat → Int32)} {fr : Nat} {M : Mem} (w : Int32) (h0 : Cm fs42 M) : AM yX11_redexes cX11_redexes 3 (some .int) true (fr + 12) 0 0 X [.ref 89, .int 2, .int w] M (fun v M1 => v = some (.int (if w < 0 then -2 else if w ≤ 7 then -5 else -2)) ∧ True) := by
  refine AM.of false (by decide +kernel) (by intro h; cases h) (Nat.le_of_ble_eq_true rfl) ?_
  show AW X (RX11, cX11_redexes, 3, (some .int), false, true, fr + 12) 0 0 0 [(0, .ref 89), (1, .int 2), (2, .int w)] [] M _
  refine a_aload_n dX11_redexes_0 rfl rfl ?_
  refine a_iconst (v := 0) dX11_redexes_1 (by decide) ?_
  refine a_putI dX11_redexes_2 (Or.inl ⟨fl_11_1, Or.inl rfl⟩) rfl (cm_l h0 (by decide)) (cm_s h0 (by decide) rfl) rfl rfl ?_
  have h1 : Cm (up2 fs42 89 0 0) (wI M 89 0 0) := cm_I h0 (by decide)
  generalize (wI M 89 0 0) = M1 at h1 ⊢
  refine a_iload_n dX11_redexes_5 rfl rfl ?_
  refine a_callS (As := [.int 2]) (st := []) (bc := 0) (bs := 0) (mc := 0) (ms := 0) false dX11_redexes_6 mw_X11_isSlot rfl (Or.inl ⟨rfl, ml_X11_271⟩) sm_X11_isSlot rfl (Nat.le_of_ble_eq_true rfl) (z2057_X11_isSlot (fr := fr) w h1) (fun v M2 hq => ?_)
  obtain ⟨rfl, h2⟩ := hq
  show AW X _ 0 0 9 _ [.int 1] _ _
  refine a_if_eq 24 dX11_redexes_9 (by decide) (fun c => absurd c (by decide)) (fun _ => ?_)
  refine a_iload_n dX11_redexes_12 rfl rfl ?_
  refine a_i2l dX11_redexes_13 ?_
  refine a_lconst (v := 0) dX11_redexes_14 (by decide) ?_
  refine a_ldc2 dX11_redexes_15 co_X11_409 ?_
  refine a_callS (As := [.long (Int32.toInt64 w), .long 0, .long 7]) (st := []) (bc := 0) (bs := 0) (mc := 0) (ms := 0) false dX11_redexes_18 mw_X11_isIn rfl (Or.inl ⟨rfl, ml_X11_180⟩) sm_X11_isIn rfl (Nat.le_of_ble_eq_true rfl) (k_isIn (fr := fr + 11) (Int32.toInt64 w) 0 7) (fun v M1 hq => ?_)
  obtain ⟨rfl, hM1⟩ := hq
  rw [hM1]
  clear hM1 M1
  refine a_st (st2 := [.int (if w < 0 then 0 else if w ≤ 7 then 1 else 0)]) (by exact congrArg (fun z => Value.int z :: []) (isin_w w 7)) ?_
  refine a_if_ne 27 dX11_redexes_21 (by decide) (fun c3 => ?_) (fun c3 => ?_)
  · refine a_aload_n dX11_redexes_27 rfl rfl ?_
    refine a_iload_n dX11_redexes_28 rfl rfl ?_
    refine a_callV (As := [.int 2]) (st := []) (a := 89) (ci := 11) (bc := 0) (bs := 0) (mc := 0) (ms := 0) false dX11_redexes_29 mw_X11_isEmpty rfl (Or.inl ⟨rfl, ml_X11_343⟩) im_X11_isEmpty se_X11_isEmpty (by decide) (cm_l h2 (by decide)) (cm_s h2 (by decide) rfl) rfl (Nat.le_of_ble_eq_true rfl) (z2058_X11_isEmpty (fr := fr) w h2) (fun v M4 hq => ?_)
    obtain ⟨rfl, h4⟩ := hq
    show AW X _ 0 0 32 _ [.int 1] _ _
    refine a_if_eq 38 dX11_redexes_32 (by decide) (fun c => absurd c (by decide)) (fun _ => ?_)
    refine a_bipush (v := (-5)) dX11_redexes_35 (by decide) ?_
    exact a_iret dX11_redexes_37 rfl ⟨by solve | rfl | (by_cases q0 : w < 0 <;> by_cases q1 : w ≤ 7 <;> simp_all [-Int32.not_lt, -Int32.not_le]), trivial⟩
  · refine a_bipush (v := (-2)) dX11_redexes_24 (by decide) ?_
    exact a_iret dX11_redexes_26 rfl ⟨by solve | rfl | (by_cases q0 : w < 0 <;> by_cases q1 : w ≤ 7 <;> simp_all [-Int32.not_lt, -Int32.not_le]), trivial⟩
set_option maxHeartbeats 4000000 in
set_option maxRecDepth 100000 in
theorem q_redexes_3 {X : Nat × (Nat → Int32)} {fr : Nat} {M : Mem} (w : Int32) (h0 : Cm fs42 M) : AM yX11_redexes cX11_redexes 3 (some .int) true (fr + 12) 0 0 X [.ref 89, .int 3, .int w] M (fun v M1 => v = some (.int (if w < 0 then -2 else if w ≤ 7 then -5 else -2)) ∧ True) := by
  refine AM.of false (by decide +kernel) (by intro h; cases h) (Nat.le_of_ble_eq_true rfl) ?_
  show AW X (RX11, cX11_redexes, 3, (some .int), false, true, fr + 12) 0 0 0 [(0, .ref 89), (1, .int 3), (2, .int w)] [] M _
  refine a_aload_n dX11_redexes_0 rfl rfl ?_
  refine a_iconst (v := 0) dX11_redexes_1 (by decide) ?_
  refine a_putI dX11_redexes_2 (Or.inl ⟨fl_11_1, Or.inl rfl⟩) rfl (cm_l h0 (by decide)) (cm_s h0 (by decide) rfl) rfl rfl ?_
  have h1 : Cm (up2 fs42 89 0 0) (wI M 89 0 0) := cm_I h0 (by decide)
  generalize (wI M 89 0 0) = M1 at h1 ⊢
  refine a_iload_n dX11_redexes_5 rfl rfl ?_
  refine a_callS (As := [.int 3]) (st := []) (bc := 0) (bs := 0) (mc := 0) (ms := 0) false dX11_redexes_6 mw_X11_isSlot rfl (Or.inl ⟨rfl, ml_X11_271⟩) sm_X11_isSlot rfl (Nat.le_of_ble_eq_true rfl) (z2059_X11_isSlot (fr := fr) w h1) (fun v M2 hq => ?_)
  obtain ⟨rfl, h2⟩ := hq
  show AW X _ 0 0 9 _ [.int 1] _ _
  refine a_if_eq 24 dX11_redexes_9 (by decide) (fun c => absurd c (by decide)) (fun _ => ?_)
  refine a_iload_n dX11_redexes_12 rfl rfl ?_
  refine a_i2l dX11_redexes_13 ?_
  refine a_lconst (v := 0) dX11_redexes_14 (by decide) ?_
  refine a_ldc2 dX11_redexes_15 co_X11_409 ?_
  refine a_callS (As := [.long (Int32.toInt64 w), .long 0, .long 7]) (st := []) (bc := 0) (bs := 0) (mc := 0) (ms := 0) false dX11_redexes_18 mw_X11_isIn rfl (Or.inl ⟨rfl, ml_X11_180⟩) sm_X11_isIn rfl (Nat.le_of_ble_eq_true rfl) (k_isIn (fr := fr + 11) (Int32.toInt64 w) 0 7) (fun v M1 hq => ?_)
  obtain ⟨rfl, hM1⟩ := hq
  rw [hM1]
  clear hM1 M1
  refine a_st (st2 := [.int (if w < 0 then 0 else if w ≤ 7 then 1 else 0)]) (by exact congrArg (fun z => Value.int z :: []) (isin_w w 7)) ?_
  refine a_if_ne 27 dX11_redexes_21 (by decide) (fun c3 => ?_) (fun c3 => ?_)
  · refine a_aload_n dX11_redexes_27 rfl rfl ?_
    refine a_iload_n dX11_redexes_28 rfl rfl ?_
    refine a_callV (As := [.int 3]) (st := []) (a := 89) (ci := 11) (bc := 0) (bs := 0) (mc := 0) (ms := 0) false dX11_redexes_29 mw_X11_isEmpty rfl (Or.inl ⟨rfl, ml_X11_343⟩) im_X11_isEmpty se_X11_isEmpty (by decide) (cm_l h2 (by decide)) (cm_s h2 (by decide) rfl) rfl (Nat.le_of_ble_eq_true rfl) (z2060_X11_isEmpty (fr := fr) w h2) (fun v M4 hq => ?_)
    obtain ⟨rfl, h4⟩ := hq
    show AW X _ 0 0 32 _ [.int 1] _ _
    refine a_if_eq 38 dX11_redexes_32 (by decide) (fun c => absurd c (by decide)) (fun _ => ?_)
    refine a_bipush (v := (-5)) dX11_redexes_35 (by decide) ?_
    exact a_iret dX11_redexes_37 rfl ⟨by solve | rfl | (by_cases q0 : w < 0 <;> by_cases q1 : w ≤ 7 <;> simp_all [-Int32.not_lt, -Int32.not_le]), trivial⟩
  · refine a_bipush (v := (-2)) dX11_redexes_24 (by decide) ?_
    exact a_iret dX11_redexes_26 rfl ⟨by solve | rfl | (by_cases q0 : w < 0 <;> by_cases q1 : w ≤ 7 <;> simp_all [-Int32.not_lt, -Int32.not_le]), trivial⟩
set_option maxHeartbeats 4000000 in
set_option maxRecDepth 100000 in
theorem z2061_X11_isSlot {X : Nat × (Nat → Int32)} {fr : Nat} {M : Mem} (x : Int32) (k : Int32) (w : Int32) (hb_x : x < 0 ∨ 4 ≤ x) (h0 : Cm (up2 fs42 89 0 0) M) : AM yX11_isSlot cX11_isSlot 1 (some .boolean) true (fr + 11) 0 0 X [.int x] M (fun v M1 => v = some (.int 0) ∧ Cm (up2 fs42 89 0 0) M1) := by
  refine AM.of false (by decide +kernel) (by intro h; cases h) (Nat.le_of_ble_eq_true rfl) ?_
  show AW X (RX11, cX11_isSlot, 1, (some .boolean), false, true, fr + 11) 0 0 0 [(0, .int x)] [] M _
  refine a_iload_n dX11_isSlot_0 rfl rfl ?_
  refine a_i2l dX11_isSlot_1 ?_
  refine a_lconst (v := 0) dX11_isSlot_2 (by decide) ?_
  refine a_ldc2 dX11_isSlot_3 co_X11_281 ?_
  refine a_callS (As := [.long (Int32.toInt64 x), .long 0, .long 3]) (st := []) (bc := 0) (bs := 0) (mc := 0) (ms := 0) false dX11_isSlot_6 mw_X11_isIn rfl (Or.inl ⟨rfl, ml_X11_180⟩) sm_X11_isIn rfl (Nat.le_of_ble_eq_true rfl) (k_isIn (fr := fr + 10) (Int32.toInt64 x) 0 3) (fun v M1 hq => ?_)
  obtain ⟨rfl, hM1⟩ := hq
  rw [hM1]
  clear hM1 M1
  refine a_st (st2 := [.int 0]) (by exact congrArg (fun z => Value.int z :: []) ((isin_s x).trans (if_pos hb_x))) ?_
  exact a_zret dX11_isSlot_9 rfl (by first | decide | (split <;> rfl)) ⟨rfl, h0⟩
set_option maxHeartbeats 4000000 in
set_option maxRecDepth 100000 in
theorem q_line_b {X : Nat × (Nat → Int32)} {fr : Nat} {M : Mem} (x : Int32) (k : Int32) (w : Int32) (hb_x : x < 0 ∨ 4 ≤ x) (h0 : Cm fs42 M) : AM yX11_line cX11_line 4 (some .int) true (fr + 12) 0 0 X [.ref 89, .int x, .int k, .int w] M (fun v M1 => v = some (.int (-2)) ∧ True) := by
  refine AM.of false (by decide +kernel) (by intro h; cases h) (Nat.le_of_ble_eq_true rfl) ?_
  show AW X (RX11, cX11_line, 4, (some .int), false, true, fr + 12) 0 0 0 [(0, .ref 89), (1, .int x), (2, .int k), (3, .int w)] [] M _
  refine a_aload_n dX11_line_0 rfl rfl ?_
  refine a_iconst (v := 0) dX11_line_1 (by decide) ?_
  refine a_putI dX11_line_2 (Or.inl ⟨fl_11_1, Or.inl rfl⟩) rfl (cm_l h0 (by decide)) (cm_s h0 (by decide) rfl) rfl rfl ?_
  have h1 : Cm (up2 fs42 89 0 0) (wI M 89 0 0) := cm_I h0 (by decide)
  generalize (wI M 89 0 0) = M1 at h1 ⊢
  refine a_iload_n dX11_line_5 rfl rfl ?_
  refine a_callS (As := [.int x]) (st := []) (bc := 0) (bs := 0) (mc := 0) (ms := 0) false dX11_line_6 mw_X11_isSlot rfl (Or.inl ⟨rfl, ml_X11_271⟩) sm_X11_isSlot rfl (Nat.le_of_ble_eq_true rfl) (z2061_X11_isSlot (fr := fr) x k w hb_x h1) (fun v M2 hq => ?_)
  obtain ⟨rfl, h2⟩ := hq
  show AW X _ 0 0 9 _ [.int 0] _ _
  refine a_if_ne 15 dX11_line_9 (by decide) (fun c => absurd (by decide) c) (fun _ => ?_)
  refine a_bipush (v := (-2)) dX11_line_12 (by decide) ?_
  exact a_iret dX11_line_14 rfl ⟨by first | rfl | decide +kernel | simp [*], trivial⟩
set_option maxHeartbeats 4000000 in
set_option maxRecDepth 100000 in
theorem z2062_X11_isSlot {X : Nat × (Nat → Int32)} {fr : Nat} {M : Mem} (k : Int32) (w : Int32) (h0 : Cm (up2 fs42 89 0 0) M) : AM yX11_isSlot cX11_isSlot 1 (some .boolean) true (fr + 11) 0 0 X [.int 0] M (fun v M1 => v = some (.int 1) ∧ Cm (up2 fs42 89 0 0) M1) := by
  refine AM.of false (by decide +kernel) (by intro h; cases h) (Nat.le_of_ble_eq_true rfl) ?_
  show AW X (RX11, cX11_isSlot, 1, (some .boolean), false, true, fr + 11) 0 0 0 [(0, .int 0)] [] M _
  refine a_iload_n dX11_isSlot_0 rfl rfl ?_
  refine a_i2l dX11_isSlot_1 ?_
  refine a_st (st2 := [.long 0]) (by first | decide +kernel | (refine congrArg (fun z => Value.int z :: []) ?_; decide +kernel) | (refine congrArg (fun z => Value.long z :: []) ?_; decide +kernel)) ?_
  refine a_lconst (v := 0) dX11_isSlot_2 (by decide) ?_
  refine a_ldc2 dX11_isSlot_3 co_X11_281 ?_
  refine a_callS (As := [.long 0, .long 0, .long 3]) (st := []) (bc := 0) (bs := 0) (mc := 0) (ms := 0) false dX11_isSlot_6 mw_X11_isIn rfl (Or.inl ⟨rfl, ml_X11_180⟩) sm_X11_isIn rfl (Nat.le_of_ble_eq_true rfl) (k_isIn (fr := fr + 10) 0 0 3) (fun v M1 hq => ?_)
  obtain ⟨rfl, hM1⟩ := hq
  rw [hM1]
  clear hM1 M1
  refine a_st (st2 := [.int 1]) (by first | decide +kernel | (refine congrArg (fun z => Value.int z :: []) ?_; decide +kernel) | (refine congrArg (fun z => Value.long z :: []) ?_; decide +kernel)) ?_
  exact a_zret dX11_isSlot_9 rfl (by first | decide | (split <;> rfl)) ⟨rfl, h0⟩
set_option maxHeartbeats 4000000 in
set_option maxRecDepth 100000 in
theorem z2063_X11_isEmpty {X : Nat × (Nat → Int32)} {fr : Nat} {M : Mem} (k : Int32) (w : Int32) (h0 : Cm (up2 fs42 89 0 0) M) : AM yX11_isEmpty cX11_isEmpty 2 (some .boolean) true (fr + 11) 0 0 X [.ref 89, .int 0] M (fun v M1 => v = some (.int 1) ∧ Cm (up2 fs42 89 0 0) M1) := by
  refine AM.of false (by decide +kernel) (by intro h; cases h) (Nat.le_of_ble_eq_true rfl) ?_
  show AW X (RX11, cX11_isEmpty, 2, (some .boolean), false, true, fr + 11) 0 0 0 [(0, .ref 89), (1, .int 0)] [] M _
  refine a_aload_n dX11_isEmpty_0 rfl rfl ?_
  refine a_get (v := .ref 104) dX11_isEmpty_1 fl_11_56 (cm_l h0 (by decide)) (cm_s h0 (by decide) rfl) (cm_g h0 rfl (by decide +kernel)) ?_
  refine a_iload_n dX11_isEmpty_4 rfl rfl ?_
  refine a_iaload dX11_isEmpty_5 (cm_l h0 (by decide)) (cm_s h0 (by decide) rfl) (by unfold vp_in; decide +kernel) ?_
  rw [show M.2.2.1 104 (Int32.toNatClampNeg 0) = 0 from (cm_i h0 (by decide)).trans (by first | decide +kernel | rfl)]
  refine a_if_ne 13 dX11_isEmpty_6 (by decide) (fun c => absurd (by decide) c) (fun _ => ?_)
  refine a_iconst (v := 1) dX11_isEmpty_9 (by decide) ?_
  refine a_goto 14 dX11_isEmpty_10 (by decide) ?_
  exact a_zret dX11_isEmpty_14 rfl (by first | decide | (split <;> rfl)) ⟨rfl, h0⟩
set_option maxHeartbeats 4000000 in
set_option maxRecDepth 100000 in
theorem q_line_0 {X : Nat × (Nat → Int32)} {fr : Nat} {M : Mem} (k : Int32) (w : Int32) (h0 : Cm fs42 M) : AM yX11_line cX11_line 4 (some .int) true (fr + 12) 0 0 X [.ref 89, .int 0, .int k, .int w] M (fun v M1 => v = some (.int (-5)) ∧ True) := by
  refine AM.of false (by decide +kernel) (by intro h; cases h) (Nat.le_of_ble_eq_true rfl) ?_
  show AW X (RX11, cX11_line, 4, (some .int), false, true, fr + 12) 0 0 0 [(0, .ref 89), (1, .int 0), (2, .int k), (3, .int w)] [] M _
  refine a_aload_n dX11_line_0 rfl rfl ?_
  refine a_iconst (v := 0) dX11_line_1 (by decide) ?_
  refine a_putI dX11_line_2 (Or.inl ⟨fl_11_1, Or.inl rfl⟩) rfl (cm_l h0 (by decide)) (cm_s h0 (by decide) rfl) rfl rfl ?_
  have h1 : Cm (up2 fs42 89 0 0) (wI M 89 0 0) := cm_I h0 (by decide)
  generalize (wI M 89 0 0) = M1 at h1 ⊢
  refine a_iload_n dX11_line_5 rfl rfl ?_
  refine a_callS (As := [.int 0]) (st := []) (bc := 0) (bs := 0) (mc := 0) (ms := 0) false dX11_line_6 mw_X11_isSlot rfl (Or.inl ⟨rfl, ml_X11_271⟩) sm_X11_isSlot rfl (Nat.le_of_ble_eq_true rfl) (z2062_X11_isSlot (fr := fr) k w h1) (fun v M2 hq => ?_)
  obtain ⟨rfl, h2⟩ := hq
  show AW X _ 0 0 9 _ [.int 1] _ _
  refine a_if_ne 15 dX11_line_9 (by decide) (fun _ => ?_) (fun c => absurd c (by decide))
  refine a_aload_n dX11_line_15 rfl rfl ?_
  refine a_iload_n dX11_line_16 rfl rfl ?_
  refine a_callV (As := [.int 0]) (st := []) (a := 89) (ci := 11) (bc := 0) (bs := 0) (mc := 0) (ms := 0) false dX11_line_17 mw_X11_isEmpty rfl (Or.inl ⟨rfl, ml_X11_343⟩) im_X11_isEmpty se_X11_isEmpty (by decide) (cm_l h2 (by decide)) (cm_s h2 (by decide) rfl) rfl (Nat.le_of_ble_eq_true rfl) (z2063_X11_isEmpty (fr := fr) k w h2) (fun v M3 hq => ?_)
  obtain ⟨rfl, h3⟩ := hq
  show AW X _ 0 0 20 _ [.int 1] _ _
  refine a_if_eq 26 dX11_line_20 (by decide) (fun c => absurd c (by decide)) (fun _ => ?_)
  refine a_bipush (v := (-5)) dX11_line_23 (by decide) ?_
  exact a_iret dX11_line_25 rfl ⟨by first | rfl | decide +kernel | simp [*], trivial⟩
set_option maxHeartbeats 4000000 in
set_option maxRecDepth 100000 in
theorem z2064_X11_isSlot {X : Nat × (Nat → Int32)} {fr : Nat} {M : Mem} (k : Int32) (w : Int32) (h0 : Cm (up2 fs42 89 0 0) M) : AM yX11_isSlot cX11_isSlot 1 (some .boolean) true (fr + 11) 0 0 X [.int 1] M (fun v M1 => v = some (.int 1) ∧ Cm (up2 fs42 89 0 0) M1) := by
  refine AM.of false (by decide +kernel) (by intro h; cases h) (Nat.le_of_ble_eq_true rfl) ?_
  show AW X (RX11, cX11_isSlot, 1, (some .boolean), false, true, fr + 11) 0 0 0 [(0, .int 1)] [] M _
  refine a_iload_n dX11_isSlot_0 rfl rfl ?_
  refine a_i2l dX11_isSlot_1 ?_
  refine a_st (st2 := [.long 1]) (by first | decide +kernel | (refine congrArg (fun z => Value.int z :: []) ?_; decide +kernel) | (refine congrArg (fun z => Value.long z :: []) ?_; decide +kernel)) ?_
  refine a_lconst (v := 0) dX11_isSlot_2 (by decide) ?_
  refine a_ldc2 dX11_isSlot_3 co_X11_281 ?_
  refine a_callS (As := [.long 1, .long 0, .long 3]) (st := []) (bc := 0) (bs := 0) (mc := 0) (ms := 0) false dX11_isSlot_6 mw_X11_isIn rfl (Or.inl ⟨rfl, ml_X11_180⟩) sm_X11_isIn rfl (Nat.le_of_ble_eq_true rfl) (k_isIn (fr := fr + 10) 1 0 3) (fun v M1 hq => ?_)
  obtain ⟨rfl, hM1⟩ := hq
  rw [hM1]
  clear hM1 M1
  refine a_st (st2 := [.int 1]) (by first | decide +kernel | (refine congrArg (fun z => Value.int z :: []) ?_; decide +kernel) | (refine congrArg (fun z => Value.long z :: []) ?_; decide +kernel)) ?_
  exact a_zret dX11_isSlot_9 rfl (by first | decide | (split <;> rfl)) ⟨rfl, h0⟩
set_option maxHeartbeats 4000000 in
set_option maxRecDepth 100000 in
theorem z2065_X11_isEmpty {X : Nat × (Nat → Int32)} {fr : Nat} {M : Mem} (k : Int32) (w : Int32) (h0 : Cm (up2 fs42 89 0 0) M) : AM yX11_isEmpty cX11_isEmpty 2 (some .boolean) true (fr + 11) 0 0 X [.ref 89, .int 1] M (fun v M1 => v = some (.int 1) ∧ Cm (up2 fs42 89 0 0) M1) := by
  refine AM.of false (by decide +kernel) (by intro h; cases h) (Nat.le_of_ble_eq_true rfl) ?_
  show AW X (RX11, cX11_isEmpty, 2, (some .boolean), false, true, fr + 11) 0 0 0 [(0, .ref 89), (1, .int 1)] [] M _
  refine a_aload_n dX11_isEmpty_0 rfl rfl ?_
  refine a_get (v := .ref 104) dX11_isEmpty_1 fl_11_56 (cm_l h0 (by decide)) (cm_s h0 (by decide) rfl) (cm_g h0 rfl (by decide +kernel)) ?_
  refine a_iload_n dX11_isEmpty_4 rfl rfl ?_
  refine a_iaload dX11_isEmpty_5 (cm_l h0 (by decide)) (cm_s h0 (by decide) rfl) (by unfold vp_in; decide +kernel) ?_
  rw [show M.2.2.1 104 (Int32.toNatClampNeg 1) = 0 from (cm_i h0 (by decide)).trans (by first | decide +kernel | rfl)]
  refine a_if_ne 13 dX11_isEmpty_6 (by decide) (fun c => absurd (by decide) c) (fun _ => ?_)
  refine a_iconst (v := 1) dX11_isEmpty_9 (by decide) ?_
  refine a_goto 14 dX11_isEmpty_10 (by decide) ?_
  exact a_zret dX11_isEmpty_14 rfl (by first | decide | (split <;> rfl)) ⟨rfl, h0⟩
set_option maxHeartbeats 4000000 in
set_option maxRecDepth 100000 in
theorem q_line_1 {X : Nat × (Nat → Int32)} {fr : Nat} {M : Mem} (k : Int32) (w : Int32) (h0 : Cm fs42 M) : AM yX11_line cX11_line 4 (some .int) true (fr + 12) 0 0 X [.ref 89, .int 1, .int k, .int w] M (fun v M1 => v = some (.int (-5)) ∧ True) := by
  refine AM.of false (by decide +kernel) (by intro h; cases h) (Nat.le_of_ble_eq_true rfl) ?_
  show AW X (RX11, cX11_line, 4, (some .int), false, true, fr + 12) 0 0 0 [(0, .ref 89), (1, .int 1), (2, .int k), (3, .int w)] [] M _
  refine a_aload_n dX11_line_0 rfl rfl ?_
  refine a_iconst (v := 0) dX11_line_1 (by decide) ?_
  refine a_putI dX11_line_2 (Or.inl ⟨fl_11_1, Or.inl rfl⟩) rfl (cm_l h0 (by decide)) (cm_s h0 (by decide) rfl) rfl rfl ?_
  have h1 : Cm (up2 fs42 89 0 0) (wI M 89 0 0) := cm_I h0 (by decide)
  generalize (wI M 89 0 0) = M1 at h1 ⊢
  refine a_iload_n dX11_line_5 rfl rfl ?_
  refine a_callS (As := [.int 1]) (st := []) (bc := 0) (bs := 0) (mc := 0) (ms := 0) false dX11_line_6 mw_X11_isSlot rfl (Or.inl ⟨rfl, ml_X11_271⟩) sm_X11_isSlot rfl (Nat.le_of_ble_eq_true rfl) (z2064_X11_isSlot (fr := fr) k w h1) (fun v M2 hq => ?_)
  obtain ⟨rfl, h2⟩ := hq
  show AW X _ 0 0 9 _ [.int 1] _ _
  refine a_if_ne 15 dX11_line_9 (by decide) (fun _ => ?_) (fun c => absurd c (by decide))
  refine a_aload_n dX11_line_15 rfl rfl ?_
  refine a_iload_n dX11_line_16 rfl rfl ?_
  refine a_callV (As := [.int 1]) (st := []) (a := 89) (ci := 11) (bc := 0) (bs := 0) (mc := 0) (ms := 0) false dX11_line_17 mw_X11_isEmpty rfl (Or.inl ⟨rfl, ml_X11_343⟩) im_X11_isEmpty se_X11_isEmpty (by decide) (cm_l h2 (by decide)) (cm_s h2 (by decide) rfl) rfl (Nat.le_of_ble_eq_true rfl) (z2065_X11_isEmpty (fr := fr) k w h2) (fun v M3 hq => ?_)
  obtain ⟨rfl, h3⟩ := hq
  show AW X _ 0 0 20 _ [.int 1] _ _
  refine a_if_eq 26 dX11_line_20 (by decide) (fun c => absurd c (by decide)) (fun _ => ?_)
  refine a_bipush (v := (-5)) dX11_line_23 (by decide) ?_
  exact a_iret dX11_line_25 rfl ⟨by first | rfl | decide +kernel | simp [*], trivial⟩
set_option maxHeartbeats 4000000 in
set_option maxRecDepth 100000 in
theorem z2066_X11_isSlot {X : Nat × (Nat → Int32)} {fr : Nat} {M : Mem} (k : Int32) (w : Int32) (h0 : Cm (up2 fs42 89 0 0) M) : AM yX11_isSlot cX11_isSlot 1 (some .boolean) true (fr + 11) 0 0 X [.int 2] M (fun v M1 => v = some (.int 1) ∧ Cm (up2 fs42 89 0 0) M1) := by
  refine AM.of false (by decide +kernel) (by intro h; cases h) (Nat.le_of_ble_eq_true rfl) ?_
  show AW X (RX11, cX11_isSlot, 1, (some .boolean), false, true, fr + 11) 0 0 0 [(0, .int 2)] [] M _
  refine a_iload_n dX11_isSlot_0 rfl rfl ?_
  refine a_i2l dX11_isSlot_1 ?_
  refine a_st (st2 := [.long 2]) (by first | decide +kernel | (refine congrArg (fun z => Value.int z :: []) ?_; decide +kernel) | (refine congrArg (fun z => Value.long z :: []) ?_; decide +kernel)) ?_
  refine a_lconst (v := 0) dX11_isSlot_2 (by decide) ?_
  refine a_ldc2 dX11_isSlot_3 co_X11_281 ?_
  refine a_callS (As := [.long 2, .long 0, .long 3]) (st := []) (bc := 0) (bs := 0) (mc := 0) (ms := 0) false dX11_isSlot_6 mw_X11_isIn rfl (Or.inl ⟨rfl, ml_X11_180⟩) sm_X11_isIn rfl (Nat.le_of_ble_eq_true rfl) (k_isIn (fr := fr + 10) 2 0 3) (fun v M1 hq => ?_)
  obtain ⟨rfl, hM1⟩ := hq
  rw [hM1]
  clear hM1 M1
  refine a_st (st2 := [.int 1]) (by first | decide +kernel | (refine congrArg (fun z => Value.int z :: []) ?_; decide +kernel) | (refine congrArg (fun z => Value.long z :: []) ?_; decide +kernel)) ?_
  exact a_zret dX11_isSlot_9 rfl (by first | decide | (split <;> rfl)) ⟨rfl, h0⟩
set_option maxHeartbeats 4000000 in
set_option maxRecDepth 100000 in
theorem z2067_X11_isEmpty {X : Nat × (Nat → Int32)} {fr : Nat} {M : Mem} (k : Int32) (w : Int32) (h0 : Cm (up2 fs42 89 0 0) M) : AM yX11_isEmpty cX11_isEmpty 2 (some .boolean) true (fr + 11) 0 0 X [.ref 89, .int 2] M (fun v M1 => v = some (.int 1) ∧ Cm (up2 fs42 89 0 0) M1) := by
  refine AM.of false (by decide +kernel) (by intro h; cases h) (Nat.le_of_ble_eq_true rfl) ?_
  show AW X (RX11, cX11_isEmpty, 2, (some .boolean), false, true, fr + 11) 0 0 0 [(0, .ref 89), (1, .int 2)] [] M _
  refine a_aload_n dX11_isEmpty_0 rfl rfl ?_
  refine a_get (v := .ref 104) dX11_isEmpty_1 fl_11_56 (cm_l h0 (by decide)) (cm_s h0 (by decide) rfl) (cm_g h0 rfl (by decide +kernel)) ?_
  refine a_iload_n dX11_isEmpty_4 rfl rfl ?_
  refine a_iaload dX11_isEmpty_5 (cm_l h0 (by decide)) (cm_s h0 (by decide) rfl) (by unfold vp_in; decide +kernel) ?_
  rw [show M.2.2.1 104 (Int32.toNatClampNeg 2) = 0 from (cm_i h0 (by decide)).trans (by first | decide +kernel | rfl)]
  refine a_if_ne 13 dX11_isEmpty_6 (by decide) (fun c => absurd (by decide) c) (fun _ => ?_)
  refine a_iconst (v := 1) dX11_isEmpty_9 (by decide) ?_
  refine a_goto 14 dX11_isEmpty_10 (by decide) ?_
  exact a_zret dX11_isEmpty_14 rfl (by first | decide | (split <;> rfl)) ⟨rfl, h0⟩
set_option maxHeartbeats 4000000 in
set_option maxRecDepth 100000 in
theorem q_line_2 {X : Nat × (Nat → Int32)} {fr : Nat} {M : Mem} (k : Int32) (w : Int32) (h0 : Cm fs42 M) : AM yX11_line cX11_line 4 (some .int) true (fr + 12) 0 0 X [.ref 89, .int 2, .int k, .int w] M (fun v M1 => v = some (.int (-5)) ∧ True) := by
  refine AM.of false (by decide +kernel) (by intro h; cases h) (Nat.le_of_ble_eq_true rfl) ?_
  show AW X (RX11, cX11_line, 4, (some .int), false, true, fr + 12) 0 0 0 [(0, .ref 89), (1, .int 2), (2, .int k), (3, .int w)] [] M _
  refine a_aload_n dX11_line_0 rfl rfl ?_
  refine a_iconst (v := 0) dX11_line_1 (by decide) ?_
  refine a_putI dX11_line_2 (Or.inl ⟨fl_11_1, Or.inl rfl⟩) rfl (cm_l h0 (by decide)) (cm_s h0 (by decide) rfl) rfl rfl ?_
  have h1 : Cm (up2 fs42 89 0 0) (wI M 89 0 0) := cm_I h0 (by decide)
  generalize (wI M 89 0 0) = M1 at h1 ⊢
  refine a_iload_n dX11_line_5 rfl rfl ?_
  refine a_callS (As := [.int 2]) (st := []) (bc := 0) (bs := 0) (mc := 0) (ms := 0) false dX11_line_6 mw_X11_isSlot rfl (Or.inl ⟨rfl, ml_X11_271⟩) sm_X11_isSlot rfl (Nat.le_of_ble_eq_true rfl) (z2066_X11_isSlot (fr := fr) k w h1) (fun v M2 hq => ?_)
  obtain ⟨rfl, h2⟩ := hq
  show AW X _ 0 0 9 _ [.int 1] _ _
  refine a_if_ne 15 dX11_line_9 (by decide) (fun _ => ?_) (fun c => absurd c (by decide))
  refine a_aload_n dX11_line_15 rfl rfl ?_
  refine a_iload_n dX11_line_16 rfl rfl ?_
  refine a_callV (As := [.int 2]) (st := []) (a := 89) (ci := 11) (bc := 0) (bs := 0) (mc := 0) (ms := 0) false dX11_line_17 mw_X11_isEmpty rfl (Or.inl ⟨rfl, ml_X11_343⟩) im_X11_isEmpty se_X11_isEmpty (by decide) (cm_l h2 (by decide)) (cm_s h2 (by decide) rfl) rfl (Nat.le_of_ble_eq_true rfl) (z2067_X11_isEmpty (fr := fr) k w h2) (fun v M3 hq => ?_)
  obtain ⟨rfl, h3⟩ := hq
  show AW X _ 0 0 20 _ [.int 1] _ _
  refine a_if_eq 26 dX11_line_20 (by decide) (fun c => absurd c (by decide)) (fun _ => ?_)
  refine a_bipush (v := (-5)) dX11_line_23 (by decide) ?_
  exact a_iret dX11_line_25 rfl ⟨by first | rfl | decide +kernel | simp [*], trivial⟩
set_option maxHeartbeats 4000000 in
set_option maxRecDepth 100000 in
theorem z2068_X11_isSlot {X : Nat × (Nat → Int32)} {fr : Nat} {M : Mem} (k : Int32) (w : Int32) (h0 : Cm (up2 fs42 89 0 0) M) : AM yX11_isSlot cX11_isSlot 1 (some .boolean) true (fr + 11) 0 0 X [.int 3] M (fun v M1 => v = some (.int 1) ∧ Cm (up2 fs42 89 0 0) M1) := by
  refine AM.of false (by decide +kernel) (by intro h; cases h) (Nat.le_of_ble_eq_true rfl) ?_
  show AW X (RX11, cX11_isSlot, 1, (some .boolean), false, true, fr + 11) 0 0 0 [(0, .int 3)] [] M _
  refine a_iload_n dX11_isSlot_0 rfl rfl ?_
  refine a_i2l dX11_isSlot_1 ?_
  refine a_st (st2 := [.long 3]) (by first | decide +kernel | (refine congrArg (fun z => Value.int z :: []) ?_; decide +kernel) | (refine congrArg (fun z => Value.long z :: []) ?_; decide +kernel)) ?_
  refine a_lconst (v := 0) dX11_isSlot_2 (by decide) ?_
  refine a_ldc2 dX11_isSlot_3 co_X11_281 ?_
  refine a_callS (As := [.long 3, .long 0, .long 3]) (st := []) (bc := 0) (bs := 0) (mc := 0) (ms := 0) false dX11_isSlot_6 mw_X11_isIn rfl (Or.inl ⟨rfl, ml_X11_180⟩) sm_X11_isIn rfl (Nat.le_of_ble_eq_true rfl) (k_isIn (fr := fr + 10) 3 0 3) (fun v M1 hq => ?_)
  obtain ⟨rfl, hM1⟩ := hq
  rw [hM1]
  clear hM1 M1
  refine a_st (st2 := [.int 1]) (by first | decide +kernel | (refine congrArg (fun z => Value.int z :: []) ?_; decide +kernel) | (refine congrArg (fun z => Value.long z :: []) ?_; decide +kernel)) ?_
  exact a_zret dX11_isSlot_9 rfl (by first | decide | (split <;> rfl)) ⟨rfl, h0⟩
set_option maxHeartbeats 4000000 in
set_option maxRecDepth 100000 in
theorem z2069_X11_isEmpty {X : Nat × (Nat → Int32)} {fr : Nat} {M : Mem} (k : Int32) (w : Int32) (h0 : Cm (up2 fs42 89 0 0) M) : AM yX11_isEmpty cX11_isEmpty 2 (some .boolean) true (fr + 11) 0 0 X [.ref 89, .int 3] M (fun v M1 => v = some (.int 1) ∧ Cm (up2 fs42 89 0 0) M1) := by
  refine AM.of false (by decide +kernel) (by intro h; cases h) (Nat.le_of_ble_eq_true rfl) ?_
  show AW X (RX11, cX11_isEmpty, 2, (some .boolean), false, true, fr + 11) 0 0 0 [(0, .ref 89), (1, .int 3)] [] M _
  refine a_aload_n dX11_isEmpty_0 rfl rfl ?_
  refine a_get (v := .ref 104) dX11_isEmpty_1 fl_11_56 (cm_l h0 (by decide)) (cm_s h0 (by decide) rfl) (cm_g h0 rfl (by decide +kernel)) ?_
  refine a_iload_n dX11_isEmpty_4 rfl rfl ?_
  refine a_iaload dX11_isEmpty_5 (cm_l h0 (by decide)) (cm_s h0 (by decide) rfl) (by unfold vp_in; decide +kernel) ?_
  rw [show M.2.2.1 104 (Int32.toNatClampNeg 3) = 0 from (cm_i h0 (by decide)).trans (by first | decide +kernel | rfl)]
  refine a_if_ne 13 dX11_isEmpty_6 (by decide) (fun c => absurd (by decide) c) (fun _ => ?_)
  refine a_iconst (v := 1) dX11_isEmpty_9 (by decide) ?_
  refine a_goto 14 dX11_isEmpty_10 (by decide) ?_
  exact a_zret dX11_isEmpty_14 rfl (by first | decide | (split <;> rfl)) ⟨rfl, h0⟩
set_option maxHeartbeats 4000000 in
set_option maxRecDepth 100000 in
theorem q_line_3 {X : Nat × (Nat → Int32)} {fr : Nat} {M : Mem} (k : Int32) (w : Int32) (h0 : Cm fs42 M) : AM yX11_line cX11_line 4 (some .int) true (fr + 12) 0 0 X [.ref 89, .int 3, .int k, .int w] M (fun v M1 => v = some (.int (-5)) ∧ True) := by
  refine AM.of false (by decide +kernel) (by intro h; cases h) (Nat.le_of_ble_eq_true rfl) ?_
  show AW X (RX11, cX11_line, 4, (some .int), false, true, fr + 12) 0 0 0 [(0, .ref 89), (1, .int 3), (2, .int k), (3, .int w)] [] M _
  refine a_aload_n dX11_line_0 rfl rfl ?_
  refine a_iconst (v := 0) dX11_line_1 (by decide) ?_
  refine a_putI dX11_line_2 (Or.inl ⟨fl_11_1, Or.inl rfl⟩) rfl (cm_l h0 (by decide)) (cm_s h0 (by decide) rfl) rfl rfl ?_
  have h1 : Cm (up2 fs42 89 0 0) (wI M 89 0 0) := cm_I h0 (by decide)
  generalize (wI M 89 0 0) = M1 at h1 ⊢
  refine a_iload_n dX11_line_5 rfl rfl ?_
  refine a_callS (As := [.int 3]) (st := []) (bc := 0) (bs := 0) (mc := 0) (ms := 0) false dX11_line_6 mw_X11_isSlot rfl (Or.inl ⟨rfl, ml_X11_271⟩) sm_X11_isSlot rfl (Nat.le_of_ble_eq_true rfl) (z2068_X11_isSlot (fr := fr) k w h1) (fun v M2 hq => ?_)
  obtain ⟨rfl, h2⟩ := hq
  show AW X _ 0 0 9 _ [.int 1] _ _
  refine a_if_ne 15 dX11_line_9 (by decide) (fun _ => ?_) (fun c => absurd c (by decide))
  refine a_aload_n dX11_line_15 rfl rfl ?_
  refine a_iload_n dX11_line_16 rfl rfl ?_
  refine a_callV (As := [.int 3]) (st := []) (a := 89) (ci := 11) (bc := 0) (bs := 0) (mc := 0) (ms := 0) false dX11_line_17 mw_X11_isEmpty rfl (Or.inl ⟨rfl, ml_X11_343⟩) im_X11_isEmpty se_X11_isEmpty (by decide) (cm_l h2 (by decide)) (cm_s h2 (by decide) rfl) rfl (Nat.le_of_ble_eq_true rfl) (z2069_X11_isEmpty (fr := fr) k w h2) (fun v M3 hq => ?_)
  obtain ⟨rfl, h3⟩ := hq
  show AW X _ 0 0 20 _ [.int 1] _ _
  refine a_if_eq 26 dX11_line_20 (by decide) (fun c => absurd c (by decide)) (fun _ => ?_)
  refine a_bipush (v := (-5)) dX11_line_23 (by decide) ?_
  exact a_iret dX11_line_25 rfl ⟨by first | rfl | decide +kernel | simp [*], trivial⟩
set_option maxHeartbeats 4000000 in
set_option maxRecDepth 100000 in
theorem z2070_X11_isSlot {X : Nat × (Nat → Int32)} {fr : Nat} {M : Mem} (x : Int32) (k : Int32) (i : Int32) (hb_x : x < 0 ∨ 4 ≤ x) (h0 : Cm (up2 fs42 89 0 0) M) : AM yX11_isSlot cX11_isSlot 1 (some .boolean) true (fr + 11) 0 0 X [.int x] M (fun v M1 => v = some (.int 0) ∧ Cm (up2 fs42 89 0 0) M1) := by
  refine AM.of false (by decide +kernel) (by intro h; cases h) (Nat.le_of_ble_eq_true rfl) ?_
  show AW X (RX11, cX11_isSlot, 1, (some .boolean), false, true, fr + 11) 0 0 0 [(0, .int x)] [] M _
  refine a_iload_n dX11_isSlot_0 rfl rfl ?_
  refine a_i2l dX11_isSlot_1 ?_
  refine a_lconst (v := 0) dX11_isSlot_2 (by decide) ?_
  refine a_ldc2 dX11_isSlot_3 co_X11_281 ?_
  refine a_callS (As := [.long (Int32.toInt64 x), .long 0, .long 3]) (st := []) (bc := 0) (bs := 0) (mc := 0) (ms := 0) false dX11_isSlot_6 mw_X11_isIn rfl (Or.inl ⟨rfl, ml_X11_180⟩) sm_X11_isIn rfl (Nat.le_of_ble_eq_true rfl) (k_isIn (fr := fr + 10) (Int32.toInt64 x) 0 3) (fun v M1 hq => ?_)
  obtain ⟨rfl, hM1⟩ := hq
  rw [hM1]
  clear hM1 M1
  refine a_st (st2 := [.int 0]) (by exact congrArg (fun z => Value.int z :: []) ((isin_s x).trans (if_pos hb_x))) ?_
  exact a_zret dX11_isSlot_9 rfl (by first | decide | (split <;> rfl)) ⟨rfl, h0⟩
set_option maxHeartbeats 4000000 in
set_option maxRecDepth 100000 in
theorem q_lineByte_b {X : Nat × (Nat → Int32)} {fr : Nat} {M : Mem} (x : Int32) (k : Int32) (i : Int32) (hb_x : x < 0 ∨ 4 ≤ x) (h0 : Cm fs42 M) : AM yX11_lineByte cX11_lineByte 4 (some .int) true (fr + 12) 0 0 X [.ref 89, .int x, .int k, .int i] M (fun v M1 => v = some (.int (-2)) ∧ True) := by
  refine AM.of false (by decide +kernel) (by intro h; cases h) (Nat.le_of_ble_eq_true rfl) ?_
  show AW X (RX11, cX11_lineByte, 4, (some .int), false, true, fr + 12) 0 0 0 [(0, .ref 89), (1, .int x), (2, .int k), (3, .int i)] [] M _
  refine a_aload_n dX11_lineByte_0 rfl rfl ?_
  refine a_iconst (v := 0) dX11_lineByte_1 (by decide) ?_
  refine a_putI dX11_lineByte_2 (Or.inl ⟨fl_11_1, Or.inl rfl⟩) rfl (cm_l h0 (by decide)) (cm_s h0 (by decide) rfl) rfl rfl ?_
  have h1 : Cm (up2 fs42 89 0 0) (wI M 89 0 0) := cm_I h0 (by decide)
  generalize (wI M 89 0 0) = M1 at h1 ⊢
  refine a_iload_n dX11_lineByte_5 rfl rfl ?_
  refine a_callS (As := [.int x]) (st := []) (bc := 0) (bs := 0) (mc := 0) (ms := 0) false dX11_lineByte_6 mw_X11_isSlot rfl (Or.inl ⟨rfl, ml_X11_271⟩) sm_X11_isSlot rfl (Nat.le_of_ble_eq_true rfl) (z2070_X11_isSlot (fr := fr) x k i hb_x h1) (fun v M2 hq => ?_)
  obtain ⟨rfl, h2⟩ := hq
  show AW X _ 0 0 9 _ [.int 0] _ _
  refine a_if_ne 15 dX11_lineByte_9 (by decide) (fun c => absurd (by decide) c) (fun _ => ?_)
  refine a_bipush (v := (-2)) dX11_lineByte_12 (by decide) ?_
  exact a_iret dX11_lineByte_14 rfl ⟨by first | rfl | decide +kernel | simp [*], trivial⟩
set_option maxHeartbeats 4000000 in
set_option maxRecDepth 100000 in
theorem z2071_X11_isSlot {X : Nat × (Nat → Int32)} {fr : Nat} {M : Mem} (k : Int32) (i : Int32) (h0 : Cm (up2 fs42 89 0 0) M) : AM yX11_isSlot cX11_isSlot 1 (some .boolean) true (fr + 11) 0 0 X [.int 0] M (fun v M1 => v = some (.int 1) ∧ Cm (up2 fs42 89 0 0) M1) := by
  refine AM.of false (by decide +kernel) (by intro h; cases h) (Nat.le_of_ble_eq_true rfl) ?_
  show AW X (RX11, cX11_isSlot, 1, (some .boolean), false, true, fr + 11) 0 0 0 [(0, .int 0)] [] M _
  refine a_iload_n dX11_isSlot_0 rfl rfl ?_
  refine a_i2l dX11_isSlot_1 ?_
  refine a_st (st2 := [.long 0]) (by first | decide +kernel | (refine congrArg (fun z => Value.int z :: []) ?_; decide +kernel) | (refine congrArg (fun z => Value.long z :: []) ?_; decide +kernel)) ?_
  refine a_lconst (v := 0) dX11_isSlot_2 (by decide) ?_
  refine a_ldc2 dX11_isSlot_3 co_X11_281 ?_
  refine a_callS (As := [.long 0, .long 0, .long 3]) (st := []) (bc := 0) (bs := 0) (mc := 0) (ms := 0) false dX11_isSlot_6 mw_X11_isIn rfl (Or.inl ⟨rfl, ml_X11_180⟩) sm_X11_isIn rfl (Nat.le_of_ble_eq_true rfl) (k_isIn (fr := fr + 10) 0 0 3) (fun v M1 hq => ?_)
  obtain ⟨rfl, hM1⟩ := hq
  rw [hM1]
  clear hM1 M1
  refine a_st (st2 := [.int 1]) (by first | decide +kernel | (refine congrArg (fun z => Value.int z :: []) ?_; decide +kernel) | (refine congrArg (fun z => Value.long z :: []) ?_; decide +kernel)) ?_
  exact a_zret dX11_isSlot_9 rfl (by first | decide | (split <;> rfl)) ⟨rfl, h0⟩
set_option maxHeartbeats 4000000 in
set_option maxRecDepth 100000 in
theorem z2072_X11_isEmpty {X : Nat × (Nat → Int32)} {fr : Nat} {M : Mem} (k : Int32) (i : Int32) (h0 : Cm (up2 fs42 89 0 0) M) : AM yX11_isEmpty cX11_isEmpty 2 (some .boolean) true (fr + 11) 0 0 X [.ref 89, .int 0] M (fun v M1 => v = some (.int 1) ∧ Cm (up2 fs42 89 0 0) M1) := by
  refine AM.of false (by decide +kernel) (by intro h; cases h) (Nat.le_of_ble_eq_true rfl) ?_
  show AW X (RX11, cX11_isEmpty, 2, (some .boolean), false, true, fr + 11) 0 0 0 [(0, .ref 89), (1, .int 0)] [] M _
  refine a_aload_n dX11_isEmpty_0 rfl rfl ?_
  refine a_get (v := .ref 104) dX11_isEmpty_1 fl_11_56 (cm_l h0 (by decide)) (cm_s h0 (by decide) rfl) (cm_g h0 rfl (by decide +kernel)) ?_
  refine a_iload_n dX11_isEmpty_4 rfl rfl ?_
  refine a_iaload dX11_isEmpty_5 (cm_l h0 (by decide)) (cm_s h0 (by decide) rfl) (by unfold vp_in; decide +kernel) ?_
  rw [show M.2.2.1 104 (Int32.toNatClampNeg 0) = 0 from (cm_i h0 (by decide)).trans (by first | decide +kernel | rfl)]
  refine a_if_ne 13 dX11_isEmpty_6 (by decide) (fun c => absurd (by decide) c) (fun _ => ?_)
  refine a_iconst (v := 1) dX11_isEmpty_9 (by decide) ?_
  refine a_goto 14 dX11_isEmpty_10 (by decide) ?_
  exact a_zret dX11_isEmpty_14 rfl (by first | decide | (split <;> rfl)) ⟨rfl, h0⟩
set_option maxHeartbeats 4000000 in
set_option maxRecDepth 100000 in
theorem q_lineByte_0 {X : Nat × (Nat → Int32)} {fr : Nat} {M : Mem} (k : Int32) (i : Int32) (h0 : Cm fs42 M) : AM yX11_lineByte cX11_lineByte 4 (some .int) true (fr + 12) 0 0 X [.ref 89, .int 0, .int k, .int i] M (fun v M1 => v = some (.int (-5)) ∧ True) := by
  refine AM.of false (by decide +kernel) (by intro h; cases h) (Nat.le_of_ble_eq_true rfl) ?_
  show AW X (RX11, cX11_lineByte, 4, (some .int), false, true, fr + 12) 0 0 0 [(0, .ref 89), (1, .int 0), (2, .int k), (3, .int i)] [] M _
  refine a_aload_n dX11_lineByte_0 rfl rfl ?_
  refine a_iconst (v := 0) dX11_lineByte_1 (by decide) ?_
  refine a_putI dX11_lineByte_2 (Or.inl ⟨fl_11_1, Or.inl rfl⟩) rfl (cm_l h0 (by decide)) (cm_s h0 (by decide) rfl) rfl rfl ?_
  have h1 : Cm (up2 fs42 89 0 0) (wI M 89 0 0) := cm_I h0 (by decide)
  generalize (wI M 89 0 0) = M1 at h1 ⊢
  refine a_iload_n dX11_lineByte_5 rfl rfl ?_
  refine a_callS (As := [.int 0]) (st := []) (bc := 0) (bs := 0) (mc := 0) (ms := 0) false dX11_lineByte_6 mw_X11_isSlot rfl (Or.inl ⟨rfl, ml_X11_271⟩) sm_X11_isSlot rfl (Nat.le_of_ble_eq_true rfl) (z2071_X11_isSlot (fr := fr) k i h1) (fun v M2 hq => ?_)
  obtain ⟨rfl, h2⟩ := hq
  show AW X _ 0 0 9 _ [.int 1] _ _
  refine a_if_ne 15 dX11_lineByte_9 (by decide) (fun _ => ?_) (fun c => absurd c (by decide))
  refine a_aload_n dX11_lineByte_15 rfl rfl ?_
  refine a_iload_n dX11_lineByte_16 rfl rfl ?_
  refine a_callV (As := [.int 0]) (st := []) (a := 89) (ci := 11) (bc := 0) (bs := 0) (mc := 0) (ms := 0) false dX11_lineByte_17 mw_X11_isEmpty rfl (Or.inl ⟨rfl, ml_X11_343⟩) im_X11_isEmpty se_X11_isEmpty (by decide) (cm_l h2 (by decide)) (cm_s h2 (by decide) rfl) rfl (Nat.le_of_ble_eq_true rfl) (z2072_X11_isEmpty (fr := fr) k i h2) (fun v M3 hq => ?_)
  obtain ⟨rfl, h3⟩ := hq
  show AW X _ 0 0 20 _ [.int 1] _ _
  refine a_if_eq 26 dX11_lineByte_20 (by decide) (fun c => absurd c (by decide)) (fun _ => ?_)
  refine a_bipush (v := (-5)) dX11_lineByte_23 (by decide) ?_
  exact a_iret dX11_lineByte_25 rfl ⟨by first | rfl | decide +kernel | simp [*], trivial⟩
set_option maxHeartbeats 4000000 in
set_option maxRecDepth 100000 in
theorem z2073_X11_isSlot {X : Nat × (Nat → Int32)} {fr : Nat} {M : Mem} (k : Int32) (i : Int32) (h0 : Cm (up2 fs42 89 0 0) M) : AM yX11_isSlot cX11_isSlot 1 (some .boolean) true (fr + 11) 0 0 X [.int 1] M (fun v M1 => v = some (.int 1) ∧ Cm (up2 fs42 89 0 0) M1) := by
  refine AM.of false (by decide +kernel) (by intro h; cases h) (Nat.le_of_ble_eq_true rfl) ?_
  show AW X (RX11, cX11_isSlot, 1, (some .boolean), false, true, fr + 11) 0 0 0 [(0, .int 1)] [] M _
  refine a_iload_n dX11_isSlot_0 rfl rfl ?_
  refine a_i2l dX11_isSlot_1 ?_
  refine a_st (st2 := [.long 1]) (by first | decide +kernel | (refine congrArg (fun z => Value.int z :: []) ?_; decide +kernel) | (refine congrArg (fun z => Value.long z :: []) ?_; decide +kernel)) ?_
  refine a_lconst (v := 0) dX11_isSlot_2 (by decide) ?_
  refine a_ldc2 dX11_isSlot_3 co_X11_281 ?_
  refine a_callS (As := [.long 1, .long 0, .long 3]) (st := []) (bc := 0) (bs := 0) (mc := 0) (ms := 0) false dX11_isSlot_6 mw_X11_isIn rfl (Or.inl ⟨rfl, ml_X11_180⟩) sm_X11_isIn rfl (Nat.le_of_ble_eq_true rfl) (k_isIn (fr := fr + 10) 1 0 3) (fun v M1 hq => ?_)
  obtain ⟨rfl, hM1⟩ := hq
  rw [hM1]
  clear hM1 M1
  refine a_st (st2 := [.int 1]) (by first | decide +kernel | (refine congrArg (fun z => Value.int z :: []) ?_; decide +kernel) | (refine congrArg (fun z => Value.long z :: []) ?_; decide +kernel)) ?_
  exact a_zret dX11_isSlot_9 rfl (by first | decide | (split <;> rfl)) ⟨rfl, h0⟩
set_option maxHeartbeats 4000000 in
set_option maxRecDepth 100000 in
theorem z2074_X11_isEmpty {X : Nat × (Nat → Int32)} {fr : Nat} {M : Mem} (k : Int32) (i : Int32) (h0 : Cm (up2 fs42 89 0 0) M) : AM yX11_isEmpty cX11_isEmpty 2 (some .boolean) true (fr + 11) 0 0 X [.ref 89, .int 1] M (fun v M1 => v = some (.int 1) ∧ Cm (up2 fs42 89 0 0) M1) := by
  refine AM.of false (by decide +kernel) (by intro h; cases h) (Nat.le_of_ble_eq_true rfl) ?_
  show AW X (RX11, cX11_isEmpty, 2, (some .boolean), false, true, fr + 11) 0 0 0 [(0, .ref 89), (1, .int 1)] [] M _
  refine a_aload_n dX11_isEmpty_0 rfl rfl ?_
  refine a_get (v := .ref 104) dX11_isEmpty_1 fl_11_56 (cm_l h0 (by decide)) (cm_s h0 (by decide) rfl) (cm_g h0 rfl (by decide +kernel)) ?_
  refine a_iload_n dX11_isEmpty_4 rfl rfl ?_
  refine a_iaload dX11_isEmpty_5 (cm_l h0 (by decide)) (cm_s h0 (by decide) rfl) (by unfold vp_in; decide +kernel) ?_
  rw [show M.2.2.1 104 (Int32.toNatClampNeg 1) = 0 from (cm_i h0 (by decide)).trans (by first | decide +kernel | rfl)]
  refine a_if_ne 13 dX11_isEmpty_6 (by decide) (fun c => absurd (by decide) c) (fun _ => ?_)
  refine a_iconst (v := 1) dX11_isEmpty_9 (by decide) ?_
  refine a_goto 14 dX11_isEmpty_10 (by decide) ?_
  exact a_zret dX11_isEmpty_14 rfl (by first | decide | (split <;> rfl)) ⟨rfl, h0⟩
set_option maxHeartbeats 4000000 in
set_option maxRecDepth 100000 in
theorem q_lineByte_1 {X : Nat × (Nat → Int32)} {fr : Nat} {M : Mem} (k : Int32) (i : Int32) (h0 : Cm fs42 M) : AM yX11_lineByte cX11_lineByte 4 (some .int) true (fr + 12) 0 0 X [.ref 89, .int 1, .int k, .int i] M (fun v M1 => v = some (.int (-5)) ∧ True) := by
  refine AM.of false (by decide +kernel) (by intro h; cases h) (Nat.le_of_ble_eq_true rfl) ?_
  show AW X (RX11, cX11_lineByte, 4, (some .int), false, true, fr + 12) 0 0 0 [(0, .ref 89), (1, .int 1), (2, .int k), (3, .int i)] [] M _
  refine a_aload_n dX11_lineByte_0 rfl rfl ?_
  refine a_iconst (v := 0) dX11_lineByte_1 (by decide) ?_
  refine a_putI dX11_lineByte_2 (Or.inl ⟨fl_11_1, Or.inl rfl⟩) rfl (cm_l h0 (by decide)) (cm_s h0 (by decide) rfl) rfl rfl ?_
  have h1 : Cm (up2 fs42 89 0 0) (wI M 89 0 0) := cm_I h0 (by decide)
  generalize (wI M 89 0 0) = M1 at h1 ⊢
  refine a_iload_n dX11_lineByte_5 rfl rfl ?_
  refine a_callS (As := [.int 1]) (st := []) (bc := 0) (bs := 0) (mc := 0) (ms := 0) false dX11_lineByte_6 mw_X11_isSlot rfl (Or.inl ⟨rfl, ml_X11_271⟩) sm_X11_isSlot rfl (Nat.le_of_ble_eq_true rfl) (z2073_X11_isSlot (fr := fr) k i h1) (fun v M2 hq => ?_)
  obtain ⟨rfl, h2⟩ := hq
  show AW X _ 0 0 9 _ [.int 1] _ _
  refine a_if_ne 15 dX11_lineByte_9 (by decide) (fun _ => ?_) (fun c => absurd c (by decide))
  refine a_aload_n dX11_lineByte_15 rfl rfl ?_
  refine a_iload_n dX11_lineByte_16 rfl rfl ?_
  refine a_callV (As := [.int 1]) (st := []) (a := 89) (ci := 11) (bc := 0) (bs := 0) (mc := 0) (ms := 0) false dX11_lineByte_17 mw_X11_isEmpty rfl (Or.inl ⟨rfl, ml_X11_343⟩) im_X11_isEmpty se_X11_isEmpty (by decide) (cm_l h2 (by decide)) (cm_s h2 (by decide) rfl) rfl (Nat.le_of_ble_eq_true rfl) (z2074_X11_isEmpty (fr := fr) k i h2) (fun v M3 hq => ?_)
  obtain ⟨rfl, h3⟩ := hq
  show AW X _ 0 0 20 _ [.int 1] _ _
  refine a_if_eq 26 dX11_lineByte_20 (by decide) (fun c => absurd c (by decide)) (fun _ => ?_)
  refine a_bipush (v := (-5)) dX11_lineByte_23 (by decide) ?_
  exact a_iret dX11_lineByte_25 rfl ⟨by first | rfl | decide +kernel | simp [*], trivial⟩
set_option maxHeartbeats 4000000 in
set_option maxRecDepth 100000 in
theorem z2075_X11_isSlot {X : Nat × (Nat → Int32)} {fr : Nat} {M : Mem} (k : Int32) (i : Int32) (h0 : Cm (up2 fs42 89 0 0) M) : AM yX11_isSlot cX11_isSlot 1 (some .boolean) true (fr + 11) 0 0 X [.int 2] M (fun v M1 => v = some (.int 1) ∧ Cm (up2 fs42 89 0 0) M1) := by
  refine AM.of false (by decide +kernel) (by intro h; cases h) (Nat.le_of_ble_eq_true rfl) ?_
  show AW X (RX11, cX11_isSlot, 1, (some .boolean), false, true, fr + 11) 0 0 0 [(0, .int 2)] [] M _
  refine a_iload_n dX11_isSlot_0 rfl rfl ?_
  refine a_i2l dX11_isSlot_1 ?_
  refine a_st (st2 := [.long 2]) (by first | decide +kernel | (refine congrArg (fun z => Value.int z :: []) ?_; decide +kernel) | (refine congrArg (fun z => Value.long z :: []) ?_; decide +kernel)) ?_
  refine a_lconst (v := 0) dX11_isSlot_2 (by decide) ?_
  refine a_ldc2 dX11_isSlot_3 co_X11_281 ?_
  refine a_callS (As := [.long 2, .long 0, .long 3]) (st := []) (bc := 0) (bs := 0) (mc := 0) (ms := 0) false dX11_isSlot_6 mw_X11_isIn rfl (Or.inl ⟨rfl, ml_X11_180⟩) sm_X11_isIn rfl (Nat.le_of_ble_eq_true rfl) (k_isIn (fr := fr + 10) 2 0 3) (fun v M1 hq => ?_)
  obtain ⟨rfl, hM1⟩ := hq
  rw [hM1]
  clear hM1 M1
  refine a_st (st2 := [.int 1]) (by first | decide +kernel | (refine congrArg (fun z => Value.int z :: []) ?_; decide +kernel) | (refine congrArg (fun z => Value.long z :: []) ?_; decide +kernel)) ?_
  exact a_zret dX11_isSlot_9 rfl (by first | decide | (split <;> rfl)) ⟨rfl, h0⟩
set_option maxHeartbeats 4000000 in
set_option maxRecDepth 100000 in
theorem z2076_X11_isEmpty {X : Nat × (Nat → Int32)} {fr : Nat} {M : Mem} (k : Int32) (i : Int32) (h0 : Cm (up2 fs42 89 0 0) M) : AM yX11_isEmpty cX11_isEmpty 2 (some .boolean) true (fr + 11) 0 0 X [.ref 89, .int 2] M (fun v M1 => v = some (.int 1) ∧ Cm (up2 fs42 89 0 0) M1) := by
  refine AM.of false (by decide +kernel) (by intro h; cases h) (Nat.le_of_ble_eq_true rfl) ?_
  show AW X (RX11, cX11_isEmpty, 2, (some .boolean), false, true, fr + 11) 0 0 0 [(0, .ref 89), (1, .int 2)] [] M _
  refine a_aload_n dX11_isEmpty_0 rfl rfl ?_
  refine a_get (v := .ref 104) dX11_isEmpty_1 fl_11_56 (cm_l h0 (by decide)) (cm_s h0 (by decide) rfl) (cm_g h0 rfl (by decide +kernel)) ?_
  refine a_iload_n dX11_isEmpty_4 rfl rfl ?_
  refine a_iaload dX11_isEmpty_5 (cm_l h0 (by decide)) (cm_s h0 (by decide) rfl) (by unfold vp_in; decide +kernel) ?_
  rw [show M.2.2.1 104 (Int32.toNatClampNeg 2) = 0 from (cm_i h0 (by decide)).trans (by first | decide +kernel | rfl)]
  refine a_if_ne 13 dX11_isEmpty_6 (by decide) (fun c => absurd (by decide) c) (fun _ => ?_)
  refine a_iconst (v := 1) dX11_isEmpty_9 (by decide) ?_
  refine a_goto 14 dX11_isEmpty_10 (by decide) ?_
  exact a_zret dX11_isEmpty_14 rfl (by first | decide | (split <;> rfl)) ⟨rfl, h0⟩
set_option maxHeartbeats 4000000 in
set_option maxRecDepth 100000 in
theorem q_lineByte_2 {X : Nat × (Nat → Int32)} {fr : Nat} {M : Mem} (k : Int32) (i : Int32) (h0 : Cm fs42 M) : AM yX11_lineByte cX11_lineByte 4 (some .int) true (fr + 12) 0 0 X [.ref 89, .int 2, .int k, .int i] M (fun v M1 => v = some (.int (-5)) ∧ True) := by
  refine AM.of false (by decide +kernel) (by intro h; cases h) (Nat.le_of_ble_eq_true rfl) ?_
  show AW X (RX11, cX11_lineByte, 4, (some .int), false, true, fr + 12) 0 0 0 [(0, .ref 89), (1, .int 2), (2, .int k), (3, .int i)] [] M _
  refine a_aload_n dX11_lineByte_0 rfl rfl ?_
  refine a_iconst (v := 0) dX11_lineByte_1 (by decide) ?_
  refine a_putI dX11_lineByte_2 (Or.inl ⟨fl_11_1, Or.inl rfl⟩) rfl (cm_l h0 (by decide)) (cm_s h0 (by decide) rfl) rfl rfl ?_
  have h1 : Cm (up2 fs42 89 0 0) (wI M 89 0 0) := cm_I h0 (by decide)
  generalize (wI M 89 0 0) = M1 at h1 ⊢
  refine a_iload_n dX11_lineByte_5 rfl rfl ?_
  refine a_callS (As := [.int 2]) (st := []) (bc := 0) (bs := 0) (mc := 0) (ms := 0) false dX11_lineByte_6 mw_X11_isSlot rfl (Or.inl ⟨rfl, ml_X11_271⟩) sm_X11_isSlot rfl (Nat.le_of_ble_eq_true rfl) (z2075_X11_isSlot (fr := fr) k i h1) (fun v M2 hq => ?_)
  obtain ⟨rfl, h2⟩ := hq
  show AW X _ 0 0 9 _ [.int 1] _ _
  refine a_if_ne 15 dX11_lineByte_9 (by decide) (fun _ => ?_) (fun c => absurd c (by decide))
  refine a_aload_n dX11_lineByte_15 rfl rfl ?_
  refine a_iload_n dX11_lineByte_16 rfl rfl ?_
  refine a_callV (As := [.int 2]) (st := []) (a := 89) (ci := 11) (bc := 0) (bs := 0) (mc := 0) (ms := 0) false dX11_lineByte_17 mw_X11_isEmpty rfl (Or.inl ⟨rfl, ml_X11_343⟩) im_X11_isEmpty se_X11_isEmpty (by decide) (cm_l h2 (by decide)) (cm_s h2 (by decide) rfl) rfl (Nat.le_of_ble_eq_true rfl) (z2076_X11_isEmpty (fr := fr) k i h2) (fun v M3 hq => ?_)
  obtain ⟨rfl, h3⟩ := hq
  show AW X _ 0 0 20 _ [.int 1] _ _
  refine a_if_eq 26 dX11_lineByte_20 (by decide) (fun c => absurd c (by decide)) (fun _ => ?_)
  refine a_bipush (v := (-5)) dX11_lineByte_23 (by decide) ?_
  exact a_iret dX11_lineByte_25 rfl ⟨by first | rfl | decide +kernel | simp [*], trivial⟩
set_option maxHeartbeats 4000000 in
set_option maxRecDepth 100000 in
theorem z2077_X11_isSlot {X : Nat × (Nat → Int32)} {fr : Nat} {M : Mem} (k : Int32) (i : Int32) (h0 : Cm (up2 fs42 89 0 0) M) : AM yX11_isSlot cX11_isSlot 1 (some .boolean) true (fr + 11) 0 0 X [.int 3] M (fun v M1 => v = some (.int 1) ∧ Cm (up2 fs42 89 0 0) M1) := by
  refine AM.of false (by decide +kernel) (by intro h; cases h) (Nat.le_of_ble_eq_true rfl) ?_
  show AW X (RX11, cX11_isSlot, 1, (some .boolean), false, true, fr + 11) 0 0 0 [(0, .int 3)] [] M _
  refine a_iload_n dX11_isSlot_0 rfl rfl ?_
  refine a_i2l dX11_isSlot_1 ?_
  refine a_st (st2 := [.long 3]) (by first | decide +kernel | (refine congrArg (fun z => Value.int z :: []) ?_; decide +kernel) | (refine congrArg (fun z => Value.long z :: []) ?_; decide +kernel)) ?_
  refine a_lconst (v := 0) dX11_isSlot_2 (by decide) ?_
  refine a_ldc2 dX11_isSlot_3 co_X11_281 ?_
  refine a_callS (As := [.long 3, .long 0, .long 3]) (st := []) (bc := 0) (bs := 0) (mc := 0) (ms := 0) false dX11_isSlot_6 mw_X11_isIn rfl (Or.inl ⟨rfl, ml_X11_180⟩) sm_X11_isIn rfl (Nat.le_of_ble_eq_true rfl) (k_isIn (fr := fr + 10) 3 0 3) (fun v M1 hq => ?_)
  obtain ⟨rfl, hM1⟩ := hq
  rw [hM1]
  clear hM1 M1
  refine a_st (st2 := [.int 1]) (by first | decide +kernel | (refine congrArg (fun z => Value.int z :: []) ?_; decide +kernel) | (refine congrArg (fun z => Value.long z :: []) ?_; decide +kernel)) ?_
  exact a_zret dX11_isSlot_9 rfl (by first | decide | (split <;> rfl)) ⟨rfl, h0⟩
set_option maxHeartbeats 4000000 in
set_option maxRecDepth 100000 in
theorem z2078_X11_isEmpty {X : Nat × (Nat → Int32)} {fr : Nat} {M : Mem} (k : Int32) (i : Int32) (h0 : Cm (up2 fs42 89 0 0) M) : AM yX11_isEmpty cX11_isEmpty 2 (some .boolean) true (fr + 11) 0 0 X [.ref 89, .int 3] M (fun v M1 => v = some (.int 1) ∧ Cm (up2 fs42 89 0 0) M1) := by
  refine AM.of false (by decide +kernel) (by intro h; cases h) (Nat.le_of_ble_eq_true rfl) ?_
  show AW X (RX11, cX11_isEmpty, 2, (some .boolean), false, true, fr + 11) 0 0 0 [(0, .ref 89), (1, .int 3)] [] M _
  refine a_aload_n dX11_isEmpty_0 rfl rfl ?_
  refine a_get (v := .ref 104) dX11_isEmpty_1 fl_11_56 (cm_l h0 (by decide)) (cm_s h0 (by decide) rfl) (cm_g h0 rfl (by decide +kernel)) ?_
  refine a_iload_n dX11_isEmpty_4 rfl rfl ?_
  refine a_iaload dX11_isEmpty_5 (cm_l h0 (by decide)) (cm_s h0 (by decide) rfl) (by unfold vp_in; decide +kernel) ?_
  rw [show M.2.2.1 104 (Int32.toNatClampNeg 3) = 0 from (cm_i h0 (by decide)).trans (by first | decide +kernel | rfl)]
  refine a_if_ne 13 dX11_isEmpty_6 (by decide) (fun c => absurd (by decide) c) (fun _ => ?_)
  refine a_iconst (v := 1) dX11_isEmpty_9 (by decide) ?_
  refine a_goto 14 dX11_isEmpty_10 (by decide) ?_
  exact a_zret dX11_isEmpty_14 rfl (by first | decide | (split <;> rfl)) ⟨rfl, h0⟩
set_option maxHeartbeats 4000000 in
set_option maxRecDepth 100000 in
theorem q_lineByte_3 {X : Nat × (Nat → Int32)} {fr : Nat} {M : Mem} (k : Int32) (i : Int32) (h0 : Cm fs42 M) : AM yX11_lineByte cX11_lineByte 4 (some .int) true (fr + 12) 0 0 X [.ref 89, .int 3, .int k, .int i] M (fun v M1 => v = some (.int (-5)) ∧ True) := by
  refine AM.of false (by decide +kernel) (by intro h; cases h) (Nat.le_of_ble_eq_true rfl) ?_
  show AW X (RX11, cX11_lineByte, 4, (some .int), false, true, fr + 12) 0 0 0 [(0, .ref 89), (1, .int 3), (2, .int k), (3, .int i)] [] M _
  refine a_aload_n dX11_lineByte_0 rfl rfl ?_
  refine a_iconst (v := 0) dX11_lineByte_1 (by decide) ?_
  refine a_putI dX11_lineByte_2 (Or.inl ⟨fl_11_1, Or.inl rfl⟩) rfl (cm_l h0 (by decide)) (cm_s h0 (by decide) rfl) rfl rfl ?_
  have h1 : Cm (up2 fs42 89 0 0) (wI M 89 0 0) := cm_I h0 (by decide)
  generalize (wI M 89 0 0) = M1 at h1 ⊢
  refine a_iload_n dX11_lineByte_5 rfl rfl ?_
  refine a_callS (As := [.int 3]) (st := []) (bc := 0) (bs := 0) (mc := 0) (ms := 0) false dX11_lineByte_6 mw_X11_isSlot rfl (Or.inl ⟨rfl, ml_X11_271⟩) sm_X11_isSlot rfl (Nat.le_of_ble_eq_true rfl) (z2077_X11_isSlot (fr := fr) k i h1) (fun v M2 hq => ?_)
  obtain ⟨rfl, h2⟩ := hq
  show AW X _ 0 0 9 _ [.int 1] _ _
  refine a_if_ne 15 dX11_lineByte_9 (by decide) (fun _ => ?_) (fun c => absurd c (by decide))
  refine a_aload_n dX11_lineByte_15 rfl rfl ?_
  refine a_iload_n dX11_lineByte_16 rfl rfl ?_
  refine a_callV (As := [.int 3]) (st := []) (a := 89) (ci := 11) (bc := 0) (bs := 0) (mc := 0) (ms := 0) false dX11_lineByte_17 mw_X11_isEmpty rfl (Or.inl ⟨rfl, ml_X11_343⟩) im_X11_isEmpty se_X11_isEmpty (by decide) (cm_l h2 (by decide)) (cm_s h2 (by decide) rfl) rfl (Nat.le_of_ble_eq_true rfl) (z2078_X11_isEmpty (fr := fr) k i h2) (fun v M3 hq => ?_)
  obtain ⟨rfl, h3⟩ := hq
  show AW X _ 0 0 20 _ [.int 1] _ _
  refine a_if_eq 26 dX11_lineByte_20 (by decide) (fun c => absurd c (by decide)) (fun _ => ?_)
  refine a_bipush (v := (-5)) dX11_lineByte_23 (by decide) ?_
  exact a_iret dX11_lineByte_25 rfl ⟨by first | rfl | decide +kernel | simp [*], trivial⟩
set_option maxHeartbeats 4000000 in
set_option maxRecDepth 100000 in
theorem q_count_0 {X : Nat × (Nat → Int32)} {fr : Nat} {M : Mem}  (h0 : Cm fs42 M) : AM yX11_count cX11_count 4 (some .int) true (fr + 12) 0 0 X [.ref 89, .int 0] M (fun v M1 => v = some (.int 0) ∧ True) := by
  refine AM.of false (by decide +kernel) (by intro h; cases h) (Nat.le_of_ble_eq_true rfl) ?_
  show AW X (RX11, cX11_count, 4, (some .int), false, true, fr + 12) 0 0 0 [(0, .ref 89), (1, .int 0)] [] M _
  refine a_aload_n dX11_count_0 rfl rfl ?_
  refine a_iconst (v := 0) dX11_count_1 (by decide) ?_
  refine a_putI dX11_count_2 (Or.inl ⟨fl_11_1, Or.inl rfl⟩) rfl (cm_l h0 (by decide)) (cm_s h0 (by decide) rfl) rfl rfl ?_
  have h1 : Cm (up2 fs42 89 0 0) (wI M 89 0 0) := cm_I h0 (by decide)
  generalize (wI M 89 0 0) = M1 at h1 ⊢
  refine a_iload_n dX11_count_5 rfl rfl ?_
  refine a_tableIn 36 dX11_count_6 (by decide +kernel) (by decide +kernel) (by first | rfl | decide +kernel) (by decide) ?_
  refine a_aload_n dX11_count_36 rfl rfl ?_
  refine a_get (v := .int 0) dX11_count_37 fl_11_144 (cm_l h1 (by decide)) (cm_s h1 (by decide) rfl) (cm_gi h1 rfl (by decide) (by first | decide +kernel | rfl)) ?_
  exact a_iret dX11_count_40 rfl ⟨by first | rfl | decide +kernel | simp [*], trivial⟩
set_option maxHeartbeats 4000000 in
set_option maxRecDepth 100000 in
theorem q_count_1 {X : Nat × (Nat → Int32)} {fr : Nat} {M : Mem}  (h0 : Cm fs42 M) : AM yX11_count cX11_count 4 (some .int) true (fr + 12) 0 0 X [.ref 89, .int 1] M (fun v M1 => v = some (.int 0) ∧ True) := by
  refine AM.of false (by decide +kernel) (by intro h; cases h) (Nat.le_of_ble_eq_true rfl) ?_
  show AW X (RX11, cX11_count, 4, (some .int), false, true, fr + 12) 0 0 0 [(0, .ref 89), (1, .int 1)] [] M _
  refine a_aload_n dX11_count_0 rfl rfl ?_
  refine a_iconst (v := 0) dX11_count_1 (by decide) ?_
  refine a_putI dX11_count_2 (Or.inl ⟨fl_11_1, Or.inl rfl⟩) rfl (cm_l h0 (by decide)) (cm_s h0 (by decide) rfl) rfl rfl ?_
  have h1 : Cm (up2 fs42 89 0 0) (wI M 89 0 0) := cm_I h0 (by decide)
  generalize (wI M 89 0 0) = M1 at h1 ⊢
  refine a_iload_n dX11_count_5 rfl rfl ?_
  refine a_tableIn 41 dX11_count_6 (by decide +kernel) (by decide +kernel) (by first | rfl | decide +kernel) (by decide) ?_
  refine a_iconst (v := 0) dX11_count_41 (by decide) ?_
  refine a_istore_n dX11_count_42 rfl (Nat.le_of_ble_eq_true rfl) (lv2 := [(2, .int 0), (0, .ref 89), (1, .int 1)]) rfl ?_
  refine a_iconst (v := 0) dX11_count_43 (by decide) ?_
  refine a_istore_n dX11_count_44 rfl (Nat.le_of_ble_eq_true rfl) (lv2 := [(3, .int 0), (2, .int 0), (0, .ref 89), (1, .int 1)]) rfl ?_
  refine a_iload_n dX11_count_45 rfl rfl ?_
  refine a_iconst (v := 4) dX11_count_46 (by decide) ?_
  refine a_icmp_ge 74 dX11_count_47 (by decide) (fun c => absurd c (by decide)) (fun _ => ?_)
  refine a_iload_n dX11_count_50 rfl rfl ?_
  refine a_aload_n dX11_count_51 rfl rfl ?_
  refine a_iload_n dX11_count_52 rfl rfl ?_
  refine a_callV (As := [.int 0]) (st := [.int 0]) (a := 89) (ci := 11) (bc := 0) (bs := 0) (mc := 0) (ms := 0) false dX11_count_53 mw_X11_isEmpty rfl (Or.inl ⟨rfl, ml_X11_343⟩) im_X11_isEmpty se_X11_isEmpty (by decide) (cm_l h1 (by decide)) (cm_s h1 (by decide) rfl) rfl (Nat.le_of_ble_eq_true rfl) (z2039_X11_isEmpty (fr := fr)  h1) (fun v M2 hq => ?_)
  obtain ⟨rfl, h2⟩ := hq
  show AW X _ 0 0 56 _ [.int 1, .int 0] _ _
  refine a_if_eq 63 dX11_count_56 (by decide) (fun c => absurd c (by decide)) (fun _ => ?_)
  refine a_iconst (v := 0) dX11_count_59 (by decide) ?_
  refine a_goto 66 dX11_count_60 (by decide) ?_
  refine a_ior dX11_count_66 ?_
  refine a_st (st2 := [.int 0]) (by first | decide +kernel | (refine congrArg (fun z => Value.int z :: []) ?_; decide +kernel) | (refine congrArg (fun z => Value.long z :: []) ?_; decide +kernel)) ?_
  refine a_istore_n dX11_count_67 rfl (Nat.le_of_ble_eq_true rfl) (lv2 := [(2, .int 0), (3, .int 0), (0, .ref 89), (1, .int 1)]) rfl ?_
  refine a_iinc (v := 1) dX11_count_68 rfl (by decide) (Nat.le_of_ble_eq_true rfl) (lv2 := [(3, .int 1), (2, .int 0), (0, .ref 89), (1, .int 1)]) rfl ?_
  refine a_goto 45 dX11_count_71 (by decide) ?_
  refine a_iload_n dX11_count_45 rfl rfl ?_
  refine a_iconst (v := 4) dX11_count_46 (by decide) ?_
  refine a_icmp_ge 74 dX11_count_47 (by decide) (fun c => absurd c (by decide)) (fun _ => ?_)
  refine a_iload_n dX11_count_50 rfl rfl ?_
  refine a_aload_n dX11_count_51 rfl rfl ?_
  refine a_iload_n dX11_count_52 rfl rfl ?_
  refine a_callV (As := [.int 1]) (st := [.int 0]) (a := 89) (ci := 11) (bc := 0) (bs := 0) (mc := 0) (ms := 0) false dX11_count_53 mw_X11_isEmpty rfl (Or.inl ⟨rfl, ml_X11_343⟩) im_X11_isEmpty se_X11_isEmpty (by decide) (cm_l h2 (by decide)) (cm_s h2 (by decide) rfl) rfl (Nat.le_of_ble_eq_true rfl) (z2040_X11_isEmpty (fr := fr)  h2) (fun v M3 hq => ?_)
  obtain ⟨rfl, h3⟩ := hq
  show AW X _ 0 0 56 _ [.int 1, .int 0] _ _
  refine a_if_eq 63 dX11_count_56 (by decide) (fun c => absurd c (by decide)) (fun _ => ?_)
  refine a_iconst (v := 0) dX11_count_59 (by decide) ?_
  refine a_goto 66 dX11_count_60 (by decide) ?_
  refine a_ior dX11_count_66 ?_
  refine a_st (st2 := [.int 0]) (by first | decide +kernel | (refine congrArg (fun z => Value.int z :: []) ?_; decide +kernel) | (refine congrArg (fun z => Value.long z :: []) ?_; decide +kernel)) ?_
  refine a_istore_n dX11_count_67 rfl (Nat.le_of_ble_eq_true rfl) (lv2 := [(2, .int 0), (3, .int 1), (0, .ref 89), (1, .int 1)]) rfl ?_
  refine a_iinc (v := 2) dX11_count_68 rfl (by decide) (Nat.le_of_ble_eq_true rfl) (lv2 := [(3, .int 2), (2, .int 0), (0, .ref 89), (1, .int 1)]) rfl ?_
  refine a_goto 45 dX11_count_71 (by decide) ?_
  refine a_iload_n dX11_count_45 rfl rfl ?_
  refine a_iconst (v := 4) dX11_count_46 (by decide) ?_
  refine a_icmp_ge 74 dX11_count_47 (by decide) (fun c => absurd c (by decide)) (fun _ => ?_)
  refine a_iload_n dX11_count_50 rfl rfl ?_
  refine a_aload_n dX11_count_51 rfl rfl ?_
  refine a_iload_n dX11_count_52 rfl rfl ?_
  refine a_callV (As := [.int 2]) (st := [.int 0]) (a := 89) (ci := 11) (bc := 0) (bs := 0) (mc := 0) (ms := 0) false dX11_count_53 mw_X11_isEmpty rfl (Or.inl ⟨rfl, ml_X11_343⟩) im_X11_isEmpty se_X11_isEmpty (by decide) (cm_l h3 (by decide)) (cm_s h3 (by decide) rfl) rfl (Nat.le_of_ble_eq_true rfl) (z2041_X11_isEmpty (fr := fr)  h3) (fun v M4 hq => ?_)
  obtain ⟨rfl, h4⟩ := hq
  show AW X _ 0 0 56 _ [.int 1, .int 0] _ _
  refine a_if_eq 63 dX11_count_56 (by decide) (fun c => absurd c (by decide)) (fun _ => ?_)
  refine a_iconst (v := 0) dX11_count_59 (by decide) ?_
  refine a_goto 66 dX11_count_60 (by decide) ?_
  refine a_ior dX11_count_66 ?_
  refine a_st (st2 := [.int 0]) (by first | decide +kernel | (refine congrArg (fun z => Value.int z :: []) ?_; decide +kernel) | (refine congrArg (fun z => Value.long z :: []) ?_; decide +kernel)) ?_
  refine a_istore_n dX11_count_67 rfl (Nat.le_of_ble_eq_true rfl) (lv2 := [(2, .int 0), (3, .int 2), (0, .ref 89), (1, .int 1)]) rfl ?_
  refine a_iinc (v := 3) dX11_count_68 rfl (by decide) (Nat.le_of_ble_eq_true rfl) (lv2 := [(3, .int 3), (2, .int 0), (0, .ref 89), (1, .int 1)]) rfl ?_
  refine a_goto 45 dX11_count_71 (by decide) ?_
  refine a_iload_n dX11_count_45 rfl rfl ?_
  refine a_iconst (v := 4) dX11_count_46 (by decide) ?_
  refine a_icmp_ge 74 dX11_count_47 (by decide) (fun c => absurd c (by decide)) (fun _ => ?_)
  refine a_iload_n dX11_count_50 rfl rfl ?_
  refine a_aload_n dX11_count_51 rfl rfl ?_
  refine a_iload_n dX11_count_52 rfl rfl ?_
  refine a_callV (As := [.int 3]) (st := [.int 0]) (a := 89) (ci := 11) (bc := 0) (bs := 0) (mc := 0) (ms := 0) false dX11_count_53 mw_X11_isEmpty rfl (Or.inl ⟨rfl, ml_X11_343⟩) im_X11_isEmpty se_X11_isEmpty (by decide) (cm_l h4 (by decide)) (cm_s h4 (by decide) rfl) rfl (Nat.le_of_ble_eq_true rfl) (z2042_X11_isEmpty (fr := fr)  h4) (fun v M5 hq => ?_)
  obtain ⟨rfl, h5⟩ := hq
  show AW X _ 0 0 56 _ [.int 1, .int 0] _ _
  refine a_if_eq 63 dX11_count_56 (by decide) (fun c => absurd c (by decide)) (fun _ => ?_)
  refine a_iconst (v := 0) dX11_count_59 (by decide) ?_
  refine a_goto 66 dX11_count_60 (by decide) ?_
  refine a_ior dX11_count_66 ?_
  refine a_st (st2 := [.int 0]) (by first | decide +kernel | (refine congrArg (fun z => Value.int z :: []) ?_; decide +kernel) | (refine congrArg (fun z => Value.long z :: []) ?_; decide +kernel)) ?_
  refine a_istore_n dX11_count_67 rfl (Nat.le_of_ble_eq_true rfl) (lv2 := [(2, .int 0), (3, .int 3), (0, .ref 89), (1, .int 1)]) rfl ?_
  refine a_iinc (v := 4) dX11_count_68 rfl (by decide) (Nat.le_of_ble_eq_true rfl) (lv2 := [(3, .int 4), (2, .int 0), (0, .ref 89), (1, .int 1)]) rfl ?_
  refine a_goto 45 dX11_count_71 (by decide) ?_
  refine a_iload_n dX11_count_45 rfl rfl ?_
  refine a_iconst (v := 4) dX11_count_46 (by decide) ?_
  refine a_icmp_ge 74 dX11_count_47 (by decide) (fun _ => ?_) (fun c => absurd (by decide) c)
  refine a_iload_n dX11_count_74 rfl rfl ?_
  exact a_iret dX11_count_75 rfl ⟨by first | rfl | decide +kernel | simp [*], trivial⟩
set_option maxHeartbeats 4000000 in
set_option maxRecDepth 100000 in
theorem q_count_2 {X : Nat × (Nat → Int32)} {fr : Nat} {M : Mem}  (h0 : Cm fs42 M) : AM yX11_count cX11_count 4 (some .int) true (fr + 12) 0 0 X [.ref 89, .int 2] M (fun v M1 => v = some (.int 0) ∧ True) := by
  refine AM.of false (by decide +kernel) (by intro h; cases h) (Nat.le_of_ble_eq_true rfl) ?_
  show AW X (RX11, cX11_count, 4, (some .int), false, true, fr + 12) 0 0 0 [(0, .ref 89), (1, .int 2)] [] M _
  refine a_aload_n dX11_count_0 rfl rfl ?_
  refine a_iconst (v := 0) dX11_count_1 (by decide) ?_
  refine a_putI dX11_count_2 (Or.inl ⟨fl_11_1, Or.inl rfl⟩) rfl (cm_l h0 (by decide)) (cm_s h0 (by decide) rfl) rfl rfl ?_
  have h1 : Cm (up2 fs42 89 0 0) (wI M 89 0 0) := cm_I h0 (by decide)
  generalize (wI M 89 0 0) = M1 at h1 ⊢
  refine a_iload_n dX11_count_5 rfl rfl ?_
  refine a_tableIn 76 dX11_count_6 (by decide +kernel) (by decide +kernel) (by first | rfl | decide +kernel) (by decide) ?_
  refine a_aload_n dX11_count_76 rfl rfl ?_
  refine a_get (v := .int 0) dX11_count_77 fl_11_154 (cm_l h1 (by decide)) (cm_s h1 (by decide) rfl) (cm_gi h1 rfl (by decide) (by first | decide +kernel | rfl)) ?_
  exact a_iret dX11_count_80 rfl ⟨by first | rfl | decide +kernel | simp [*], trivial⟩
set_option maxHeartbeats 4000000 in
set_option maxRecDepth 100000 in
theorem q_count_3 {X : Nat × (Nat → Int32)} {fr : Nat} {M : Mem}  (h0 : Cm fs42 M) : AM yX11_count cX11_count 4 (some .int) true (fr + 12) 0 0 X [.ref 89, .int 3] M (fun v M1 => v = some (.int 0) ∧ True) := by
  refine AM.of false (by decide +kernel) (by intro h; cases h) (Nat.le_of_ble_eq_true rfl) ?_
  show AW X (RX11, cX11_count, 4, (some .int), false, true, fr + 12) 0 0 0 [(0, .ref 89), (1, .int 3)] [] M _
  refine a_aload_n dX11_count_0 rfl rfl ?_
  refine a_iconst (v := 0) dX11_count_1 (by decide) ?_
  refine a_putI dX11_count_2 (Or.inl ⟨fl_11_1, Or.inl rfl⟩) rfl (cm_l h0 (by decide)) (cm_s h0 (by decide) rfl) rfl rfl ?_
  have h1 : Cm (up2 fs42 89 0 0) (wI M 89 0 0) := cm_I h0 (by decide)
  generalize (wI M 89 0 0) = M1 at h1 ⊢
  refine a_iload_n dX11_count_5 rfl rfl ?_
  refine a_tableIn 81 dX11_count_6 (by decide +kernel) (by decide +kernel) (by first | rfl | decide +kernel) (by decide) ?_
  refine a_aload_n dX11_count_81 rfl rfl ?_
  refine a_get (v := .int 0) dX11_count_82 fl_11_358 (cm_l h1 (by decide)) (cm_s h1 (by decide) rfl) (cm_gi h1 rfl (by decide) (by first | decide +kernel | rfl)) ?_
  exact a_iret dX11_count_85 rfl ⟨by first | rfl | decide +kernel | simp [*], trivial⟩
set_option maxHeartbeats 4000000 in
set_option maxRecDepth 100000 in
theorem q_count_o {X : Nat × (Nat → Int32)} {fr : Nat} {M : Mem} (w : Int32) (hsw : w.toInt < 0 ∨ 3 < w.toInt) (h0 : Cm fs42 M) : AM yX11_count cX11_count 4 (some .int) true (fr + 12) 0 0 X [.ref 89, .int w] M (fun v M1 => v = some (.int (-1)) ∧ True) := by
  refine AM.of false (by decide +kernel) (by intro h; cases h) (Nat.le_of_ble_eq_true rfl) ?_
  show AW X (RX11, cX11_count, 4, (some .int), false, true, fr + 12) 0 0 0 [(0, .ref 89), (1, .int w)] [] M _
  refine a_aload_n dX11_count_0 rfl rfl ?_
  refine a_iconst (v := 0) dX11_count_1 (by decide) ?_
  refine a_putI dX11_count_2 (Or.inl ⟨fl_11_1, Or.inl rfl⟩) rfl (cm_l h0 (by decide)) (cm_s h0 (by decide) rfl) rfl rfl ?_
  have h1 : Cm (up2 fs42 89 0 0) (wI M 89 0 0) := cm_I h0 (by decide)
  generalize (wI M 89 0 0) = M1 at h1 ⊢
  refine a_iload_n dX11_count_5 rfl rfl ?_
  refine a_tableOut 86 dX11_count_6 hsw (by decide) ?_
  refine a_iconst (v := (-1)) dX11_count_86 (by decide) ?_
  exact a_iret dX11_count_87 rfl ⟨by first | rfl | decide +kernel | simp [*], trivial⟩
set_option maxHeartbeats 4000000 in
set_option maxRecDepth 100000 in
theorem q_hypothesis {X : Nat × (Nat → Int32)} {fr : Nat} {M : Mem} (k : Int32) (w : Int32) (i : Int32) (h0 : Cm fs42 M) : AM yX11_hypothesis cX11_hypothesis 4 (some .int) true (fr + 12) 0 0 X [.ref 89, .int k, .int w, .int i] M (fun v M1 => v = some (.int (-2)) ∧ True) := by
  refine AM.of false (by decide +kernel) (by intro h; cases h) (Nat.le_of_ble_eq_true rfl) ?_
  show AW X (RX11, cX11_hypothesis, 4, (some .int), false, true, fr + 12) 0 0 0 [(0, .ref 89), (1, .int k), (2, .int w), (3, .int i)] [] M _
  refine a_aload_n dX11_hypothesis_0 rfl rfl ?_
  refine a_iconst (v := 0) dX11_hypothesis_1 (by decide) ?_
  refine a_putI dX11_hypothesis_2 (Or.inl ⟨fl_11_1, Or.inl rfl⟩) rfl (cm_l h0 (by decide)) (cm_s h0 (by decide) rfl) rfl rfl ?_
  have h1 : Cm (up2 fs42 89 0 0) (wI M 89 0 0) := cm_I h0 (by decide)
  generalize (wI M 89 0 0) = M1 at h1 ⊢
  refine a_iload_n dX11_hypothesis_5 rfl rfl ?_
  refine a_i2l dX11_hypothesis_6 ?_
  refine a_lconst (v := 0) dX11_hypothesis_7 (by decide) ?_
  refine a_aload_n dX11_hypothesis_8 rfl rfl ?_
  refine a_get (v := .int 0) dX11_hypothesis_9 fl_11_144 (cm_l h1 (by decide)) (cm_s h1 (by decide) rfl) (cm_gi h1 rfl (by decide) (by first | decide +kernel | rfl)) ?_
  refine a_iconst (v := 1) dX11_hypothesis_12 (by decide) ?_
  refine a_isub dX11_hypothesis_13 ?_
  refine a_st (st2 := [.int (-1), .long 0, .long (Int32.toInt64 k)]) (by first | decide +kernel | (refine congrArg (fun z => Value.int z :: [.long 0, .long (Int32.toInt64 k)]) ?_; decide +kernel) | (refine congrArg (fun z => Value.long z :: [.long 0, .long (Int32.toInt64 k)]) ?_; decide +kernel)) ?_
  refine a_i2l dX11_hypothesis_14 ?_
  refine a_st (st2 := [.long (-1), .long 0, .long (Int32.toInt64 k)]) (by first | decide +kernel | (refine congrArg (fun z => Value.int z :: [.long 0, .long (Int32.toInt64 k)]) ?_; decide +kernel) | (refine congrArg (fun z => Value.long z :: [.long 0, .long (Int32.toInt64 k)]) ?_; decide +kernel)) ?_
  refine a_callS (As := [.long (Int32.toInt64 k), .long 0, .long (-1)]) (st := []) (bc := 0) (bs := 0) (mc := 0) (ms := 0) false dX11_hypothesis_15 mw_X11_isIn rfl (Or.inl ⟨rfl, ml_X11_180⟩) sm_X11_isIn rfl (Nat.le_of_ble_eq_true rfl) (k_isIn (fr := fr + 11) (Int32.toInt64 k) 0 (-1)) (fun v M1 hq => ?_)
  obtain ⟨rfl, hM1⟩ := hq
  rw [hM1]
  clear hM1 M1
  refine a_st (st2 := [.int 0]) (by exact congrArg (fun z => Value.int z :: []) (isin_m k)) ?_
  refine a_if_eq 31 dX11_hypothesis_18 (by decide) (fun _ => ?_) (fun c => absurd (by decide) c)
  refine a_bipush (v := (-2)) dX11_hypothesis_31 (by decide) ?_
  exact a_iret dX11_hypothesis_33 rfl ⟨by first | rfl | decide +kernel | simp [*], trivial⟩
set_option maxHeartbeats 4000000 in
set_option maxRecDepth 100000 in
theorem q_trace {X : Nat × (Nat → Int32)} {fr : Nat} {M : Mem} (k : Int32) (h0 : Cm fs42 M) : AM yX11_trace cX11_trace 2 (some .int) true (fr + 12) 0 0 X [.ref 89, .int k] M (fun v M1 => v = some (.int (-2)) ∧ True) := by
  refine AM.of false (by decide +kernel) (by intro h; cases h) (Nat.le_of_ble_eq_true rfl) ?_
  show AW X (RX11, cX11_trace, 2, (some .int), false, true, fr + 12) 0 0 0 [(0, .ref 89), (1, .int k)] [] M _
  refine a_aload_n dX11_trace_0 rfl rfl ?_
  refine a_iconst (v := 0) dX11_trace_1 (by decide) ?_
  refine a_putI dX11_trace_2 (Or.inl ⟨fl_11_1, Or.inl rfl⟩) rfl (cm_l h0 (by decide)) (cm_s h0 (by decide) rfl) rfl rfl ?_
  have h1 : Cm (up2 fs42 89 0 0) (wI M 89 0 0) := cm_I h0 (by decide)
  generalize (wI M 89 0 0) = M1 at h1 ⊢
  refine a_iload_n dX11_trace_5 rfl rfl ?_
  refine a_i2l dX11_trace_6 ?_
  refine a_lconst (v := 0) dX11_trace_7 (by decide) ?_
  refine a_aload_n dX11_trace_8 rfl rfl ?_
  refine a_get (v := .int 0) dX11_trace_9 fl_11_358 (cm_l h1 (by decide)) (cm_s h1 (by decide) rfl) (cm_gi h1 rfl (by decide) (by first | decide +kernel | rfl)) ?_
  refine a_iconst (v := 1) dX11_trace_12 (by decide) ?_
  refine a_isub dX11_trace_13 ?_
  refine a_st (st2 := [.int (-1), .long 0, .long (Int32.toInt64 k)]) (by first | decide +kernel | (refine congrArg (fun z => Value.int z :: [.long 0, .long (Int32.toInt64 k)]) ?_; decide +kernel) | (refine congrArg (fun z => Value.long z :: [.long 0, .long (Int32.toInt64 k)]) ?_; decide +kernel)) ?_
  refine a_i2l dX11_trace_14 ?_
  refine a_st (st2 := [.long (-1), .long 0, .long (Int32.toInt64 k)]) (by first | decide +kernel | (refine congrArg (fun z => Value.int z :: [.long 0, .long (Int32.toInt64 k)]) ?_; decide +kernel) | (refine congrArg (fun z => Value.long z :: [.long 0, .long (Int32.toInt64 k)]) ?_; decide +kernel)) ?_
  refine a_callS (As := [.long (Int32.toInt64 k), .long 0, .long (-1)]) (st := []) (bc := 0) (bs := 0) (mc := 0) (ms := 0) false dX11_trace_15 mw_X11_isIn rfl (Or.inl ⟨rfl, ml_X11_180⟩) sm_X11_isIn rfl (Nat.le_of_ble_eq_true rfl) (k_isIn (fr := fr + 11) (Int32.toInt64 k) 0 (-1)) (fun v M1 hq => ?_)
  obtain ⟨rfl, hM1⟩ := hq
  rw [hM1]
  clear hM1 M1
  refine a_st (st2 := [.int 0]) (by exact congrArg (fun z => Value.int z :: []) (isin_m k)) ?_
  refine a_if_eq 30 dX11_trace_18 (by decide) (fun _ => ?_) (fun c => absurd (by decide) c)
  refine a_bipush (v := (-2)) dX11_trace_30 (by decide) ?_
  exact a_iret dX11_trace_32 rfl ⟨by first | rfl | decide +kernel | simp [*], trivial⟩
set_option maxHeartbeats 4000000 in
set_option maxRecDepth 100000 in
theorem z2079_X11_isSlot {X : Nat × (Nat → Int32)} {fr : Nat} {M : Mem} (a : Int32) (k : Int32) (b : Int32) (c : Int32) (h0 : Cm (up2 fs42 89 0 0) M) : AM yX11_isSlot cX11_isSlot 1 (some .boolean) true (fr + 11) 0 0 X [.int a] M (fun v M1 => v = some (.int (if a < 0 ∨ 4 ≤ a then 0 else 1)) ∧ Cm (up2 fs42 89 0 0) M1) := by
  refine AM.of false (by decide +kernel) (by intro h; cases h) (Nat.le_of_ble_eq_true rfl) ?_
  show AW X (RX11, cX11_isSlot, 1, (some .boolean), false, true, fr + 11) 0 0 0 [(0, .int a)] [] M _
  refine a_iload_n dX11_isSlot_0 rfl rfl ?_
  refine a_i2l dX11_isSlot_1 ?_
  refine a_lconst (v := 0) dX11_isSlot_2 (by decide) ?_
  refine a_ldc2 dX11_isSlot_3 co_X11_281 ?_
  refine a_callS (As := [.long (Int32.toInt64 a), .long 0, .long 3]) (st := []) (bc := 0) (bs := 0) (mc := 0) (ms := 0) false dX11_isSlot_6 mw_X11_isIn rfl (Or.inl ⟨rfl, ml_X11_180⟩) sm_X11_isIn rfl (Nat.le_of_ble_eq_true rfl) (k_isIn (fr := fr + 10) (Int32.toInt64 a) 0 3) (fun v M1 hq => ?_)
  obtain ⟨rfl, hM1⟩ := hq
  rw [hM1]
  clear hM1 M1
  refine a_st (st2 := [.int (if a < 0 ∨ 4 ≤ a then 0 else 1)]) (by exact congrArg (fun z => Value.int z :: []) (isin_s a)) ?_
  exact a_zret dX11_isSlot_9 rfl (by first | decide | (split <;> rfl)) ⟨rfl, h0⟩
set_option maxHeartbeats 4000000 in
set_option maxRecDepth 100000 in
theorem q_cut {X : Nat × (Nat → Int32)} {fr : Nat} {M : Mem} (a : Int32) (k : Int32) (b : Int32) (c : Int32) (h0 : Cm fs42 M) : AM yX11_cut cX11_cut 11 (some .int) true (fr + 12) 0 0 X [.ref 89, .int a, .int k, .int b, .int c] M (fun v M1 => v = some (.int (-2)) ∧ True) := by
  refine AM.of false (by decide +kernel) (by intro h; cases h) (Nat.le_of_ble_eq_true rfl) ?_
  show AW X (RX11, cX11_cut, 11, (some .int), false, true, fr + 12) 0 0 0 [(0, .ref 89), (1, .int a), (2, .int k), (3, .int b), (4, .int c)] [] M _
  refine a_aload_n dX11_cut_0 rfl rfl ?_
  refine a_iconst (v := 0) dX11_cut_1 (by decide) ?_
  refine a_putI dX11_cut_2 (Or.inl ⟨fl_11_1, Or.inl rfl⟩) rfl (cm_l h0 (by decide)) (cm_s h0 (by decide) rfl) rfl rfl ?_
  have h1 : Cm (up2 fs42 89 0 0) (wI M 89 0 0) := cm_I h0 (by decide)
  generalize (wI M 89 0 0) = M1 at h1 ⊢
  refine a_iload_n dX11_cut_5 rfl rfl ?_
  refine a_callS (As := [.int a]) (st := []) (bc := 0) (bs := 0) (mc := 0) (ms := 0) false dX11_cut_6 mw_X11_isSlot rfl (Or.inl ⟨rfl, ml_X11_271⟩) sm_X11_isSlot rfl (Nat.le_of_ble_eq_true rfl) (z2079_X11_isSlot (fr := fr) a k b c h1) (fun v M2 hq => ?_)
  obtain ⟨rfl, h2⟩ := hq
  show AW X _ 0 0 9 _ [.int (if a < 0 ∨ 4 ≤ a then 0 else 1)] _ _
  refine a_if_eq 43 dX11_cut_9 (by decide) (fun c3 => ?_) (fun c3 => ?_)
  · refine a_bipush (v := (-2)) dX11_cut_43 (by decide) ?_
    exact a_iret dX11_cut_45 rfl ⟨by first | rfl | decide +kernel | simp [*], trivial⟩
  · refine a_iload_n dX11_cut_12 rfl rfl ?_
    refine a_i2l dX11_cut_13 ?_
    refine a_lconst (v := 0) dX11_cut_14 (by decide) ?_
    refine a_aload_n dX11_cut_15 rfl rfl ?_
    refine a_get (v := .int 0) dX11_cut_16 fl_11_144 (cm_l h2 (by decide)) (cm_s h2 (by decide) rfl) (cm_gi h2 rfl (by decide) (by first | decide +kernel | rfl)) ?_
    refine a_iconst (v := 1) dX11_cut_19 (by decide) ?_
    refine a_isub dX11_cut_20 ?_
    refine a_st (st2 := [.int (-1), .long 0, .long (Int32.toInt64 k)]) (by first | decide +kernel | (refine congrArg (fun z => Value.int z :: [.long 0, .long (Int32.toInt64 k)]) ?_; decide +kernel) | (refine congrArg (fun z => Value.long z :: [.long 0, .long (Int32.toInt64 k)]) ?_; decide +kernel)) ?_
    refine a_i2l dX11_cut_21 ?_
    refine a_st (st2 := [.long (-1), .long 0, .long (Int32.toInt64 k)]) (by first | decide +kernel | (refine congrArg (fun z => Value.int z :: [.long 0, .long (Int32.toInt64 k)]) ?_; decide +kernel) | (refine congrArg (fun z => Value.long z :: [.long 0, .long (Int32.toInt64 k)]) ?_; decide +kernel)) ?_
    refine a_callS (As := [.long (Int32.toInt64 k), .long 0, .long (-1)]) (st := []) (bc := 0) (bs := 0) (mc := 0) (ms := 0) false dX11_cut_22 mw_X11_isIn rfl (Or.inl ⟨rfl, ml_X11_180⟩) sm_X11_isIn rfl (Nat.le_of_ble_eq_true rfl) (k_isIn (fr := fr + 11) (Int32.toInt64 k) 0 (-1)) (fun v M1 hq => ?_)
    obtain ⟨rfl, hM1⟩ := hq
    rw [hM1]
    clear hM1 M1
    refine a_st (st2 := [.int 0]) (by exact congrArg (fun z => Value.int z :: []) (isin_m k)) ?_
    refine a_if_eq 43 dX11_cut_25 (by decide) (fun _ => ?_) (fun c => absurd (by decide) c)
    refine a_bipush (v := (-2)) dX11_cut_43 (by decide) ?_
    exact a_iret dX11_cut_45 rfl ⟨by first | rfl | decide +kernel | simp [*], trivial⟩
set_option maxHeartbeats 4000000 in
set_option maxRecDepth 100000 in
theorem z2080_X11_isSlot {X : Nat × (Nat → Int32)} {fr : Nat} {M : Mem} (x : Int32) (y : Int32) (hb_x : x < 0 ∨ 4 ≤ x) (h0 : Cm (up2 fs42 89 0 0) M) : AM yX11_isSlot cX11_isSlot 1 (some .boolean) true (fr + 11) 0 0 X [.int x] M (fun v M1 => v = some (.int 0) ∧ Cm (up2 fs42 89 0 0) M1) := by
  refine AM.of false (by decide +kernel) (by intro h; cases h) (Nat.le_of_ble_eq_true rfl) ?_
  show AW X (RX11, cX11_isSlot, 1, (some .boolean), false, true, fr + 11) 0 0 0 [(0, .int x)] [] M _
  refine a_iload_n dX11_isSlot_0 rfl rfl ?_
  refine a_i2l dX11_isSlot_1 ?_
  refine a_lconst (v := 0) dX11_isSlot_2 (by decide) ?_
  refine a_ldc2 dX11_isSlot_3 co_X11_281 ?_
  refine a_callS (As := [.long (Int32.toInt64 x), .long 0, .long 3]) (st := []) (bc := 0) (bs := 0) (mc := 0) (ms := 0) false dX11_isSlot_6 mw_X11_isIn rfl (Or.inl ⟨rfl, ml_X11_180⟩) sm_X11_isIn rfl (Nat.le_of_ble_eq_true rfl) (k_isIn (fr := fr + 10) (Int32.toInt64 x) 0 3) (fun v M1 hq => ?_)
  obtain ⟨rfl, hM1⟩ := hq
  rw [hM1]
  clear hM1 M1
  refine a_st (st2 := [.int 0]) (by exact congrArg (fun z => Value.int z :: []) ((isin_s x).trans (if_pos hb_x))) ?_
  exact a_zret dX11_isSlot_9 rfl (by first | decide | (split <;> rfl)) ⟨rfl, h0⟩
set_option maxHeartbeats 4000000 in
set_option maxRecDepth 100000 in
theorem q_equal_b {X : Nat × (Nat → Int32)} {fr : Nat} {M : Mem} (x : Int32) (y : Int32) (hb_x : x < 0 ∨ 4 ≤ x) (h0 : Cm fs42 M) : AM yX11_equal cX11_equal 4 (some .int) true (fr + 12) 0 0 X [.ref 89, .int x, .int y] M (fun v M1 => v = some (.int (-2)) ∧ True) := by
  refine AM.of false (by decide +kernel) (by intro h; cases h) (Nat.le_of_ble_eq_true rfl) ?_
  show AW X (RX11, cX11_equal, 4, (some .int), false, true, fr + 12) 0 0 0 [(0, .ref 89), (1, .int x), (2, .int y)] [] M _
  refine a_aload_n dX11_equal_0 rfl rfl ?_
  refine a_iconst (v := 0) dX11_equal_1 (by decide) ?_
  refine a_putI dX11_equal_2 (Or.inl ⟨fl_11_1, Or.inl rfl⟩) rfl (cm_l h0 (by decide)) (cm_s h0 (by decide) rfl) rfl rfl ?_
  have h1 : Cm (up2 fs42 89 0 0) (wI M 89 0 0) := cm_I h0 (by decide)
  generalize (wI M 89 0 0) = M1 at h1 ⊢
  refine a_iload_n dX11_equal_5 rfl rfl ?_
  refine a_callS (As := [.int x]) (st := []) (bc := 0) (bs := 0) (mc := 0) (ms := 0) false dX11_equal_6 mw_X11_isSlot rfl (Or.inl ⟨rfl, ml_X11_271⟩) sm_X11_isSlot rfl (Nat.le_of_ble_eq_true rfl) (z2080_X11_isSlot (fr := fr) x y hb_x h1) (fun v M2 hq => ?_)
  obtain ⟨rfl, h2⟩ := hq
  show AW X _ 0 0 9 _ [.int 0] _ _
  refine a_if_eq 19 dX11_equal_9 (by decide) (fun _ => ?_) (fun c => absurd (by decide) c)
  refine a_bipush (v := (-2)) dX11_equal_19 (by decide) ?_
  exact a_iret dX11_equal_21 rfl ⟨by first | rfl | decide +kernel | simp [*], trivial⟩
set_option maxHeartbeats 4000000 in
set_option maxRecDepth 100000 in
theorem z2081_X11_isSlot {X : Nat × (Nat → Int32)} {fr : Nat} {M : Mem} (y : Int32) (hb_y : y < 0 ∨ 4 ≤ y) (h0 : Cm (up2 fs42 89 0 0) M) : AM yX11_isSlot cX11_isSlot 1 (some .boolean) true (fr + 11) 0 0 X [.int 0] M (fun v M1 => v = some (.int 1) ∧ Cm (up2 fs42 89 0 0) M1) := by
  refine AM.of false (by decide +kernel) (by intro h; cases h) (Nat.le_of_ble_eq_true rfl) ?_
  show AW X (RX11, cX11_isSlot, 1, (some .boolean), false, true, fr + 11) 0 0 0 [(0, .int 0)] [] M _
  refine a_iload_n dX11_isSlot_0 rfl rfl ?_
  refine a_i2l dX11_isSlot_1 ?_
  refine a_st (st2 := [.long 0]) (by first | decide +kernel | (refine congrArg (fun z => Value.int z :: []) ?_; decide +kernel) | (refine congrArg (fun z => Value.long z :: []) ?_; decide +kernel)) ?_
  refine a_lconst (v := 0) dX11_isSlot_2 (by decide) ?_
  refine a_ldc2 dX11_isSlot_3 co_X11_281 ?_
  refine a_callS (As := [.long 0, .long 0, .long 3]) (st := []) (bc := 0) (bs := 0) (mc := 0) (ms := 0) false dX11_isSlot_6 mw_X11_isIn rfl (Or.inl ⟨rfl, ml_X11_180⟩) sm_X11_isIn rfl (Nat.le_of_ble_eq_true rfl) (k_isIn (fr := fr + 10) 0 0 3) (fun v M1 hq => ?_)
  obtain ⟨rfl, hM1⟩ := hq
  rw [hM1]
  clear hM1 M1
  refine a_st (st2 := [.int 1]) (by first | decide +kernel | (refine congrArg (fun z => Value.int z :: []) ?_; decide +kernel) | (refine congrArg (fun z => Value.long z :: []) ?_; decide +kernel)) ?_
  exact a_zret dX11_isSlot_9 rfl (by first | decide | (split <;> rfl)) ⟨rfl, h0⟩
set_option maxHeartbeats 4000000 in
set_option maxRecDepth 100000 in
theorem z2082_X11_isSlot {X : Nat × (Nat → Int32)} {fr : Nat} {M : Mem} (y : Int32) (hb_y : y < 0 ∨ 4 ≤ y) (h0 : Cm (up2 fs42 89 0 0) M) : AM yX11_isSlot cX11_isSlot 1 (some .boolean) true (fr + 11) 0 0 X [.int y] M (fun v M1 => v = some (.int 0) ∧ Cm (up2 fs42 89 0 0) M1) := by
  refine AM.of false (by decide +kernel) (by intro h; cases h) (Nat.le_of_ble_eq_true rfl) ?_
  show AW X (RX11, cX11_isSlot, 1, (some .boolean), false, true, fr + 11) 0 0 0 [(0, .int y)] [] M _
  refine a_iload_n dX11_isSlot_0 rfl rfl ?_
  refine a_i2l dX11_isSlot_1 ?_
  refine a_lconst (v := 0) dX11_isSlot_2 (by decide) ?_
  refine a_ldc2 dX11_isSlot_3 co_X11_281 ?_
  refine a_callS (As := [.long (Int32.toInt64 y), .long 0, .long 3]) (st := []) (bc := 0) (bs := 0) (mc := 0) (ms := 0) false dX11_isSlot_6 mw_X11_isIn rfl (Or.inl ⟨rfl, ml_X11_180⟩) sm_X11_isIn rfl (Nat.le_of_ble_eq_true rfl) (k_isIn (fr := fr + 10) (Int32.toInt64 y) 0 3) (fun v M1 hq => ?_)
  obtain ⟨rfl, hM1⟩ := hq
  rw [hM1]
  clear hM1 M1
  refine a_st (st2 := [.int 0]) (by exact congrArg (fun z => Value.int z :: []) ((isin_s y).trans (if_pos hb_y))) ?_
  exact a_zret dX11_isSlot_9 rfl (by first | decide | (split <;> rfl)) ⟨rfl, h0⟩
set_option maxHeartbeats 4000000 in
set_option maxRecDepth 100000 in
theorem q_equal_0b {X : Nat × (Nat → Int32)} {fr : Nat} {M : Mem} (y : Int32) (hb_y : y < 0 ∨ 4 ≤ y) (h0 : Cm fs42 M) : AM yX11_equal cX11_equal 4 (some .int) true (fr + 12) 0 0 X [.ref 89, .int 0, .int y] M (fun v M1 => v = some (.int (-2)) ∧ True) := by
  refine AM.of false (by decide +kernel) (by intro h; cases h) (Nat.le_of_ble_eq_true rfl) ?_
  show AW X (RX11, cX11_equal, 4, (some .int), false, true, fr + 12) 0 0 0 [(0, .ref 89), (1, .int 0), (2, .int y)] [] M _
  refine a_aload_n dX11_equal_0 rfl rfl ?_
  refine a_iconst (v := 0) dX11_equal_1 (by decide) ?_
  refine a_putI dX11_equal_2 (Or.inl ⟨fl_11_1, Or.inl rfl⟩) rfl (cm_l h0 (by decide)) (cm_s h0 (by decide) rfl) rfl rfl ?_
  have h1 : Cm (up2 fs42 89 0 0) (wI M 89 0 0) := cm_I h0 (by decide)
  generalize (wI M 89 0 0) = M1 at h1 ⊢
  refine a_iload_n dX11_equal_5 rfl rfl ?_
  refine a_callS (As := [.int 0]) (st := []) (bc := 0) (bs := 0) (mc := 0) (ms := 0) false dX11_equal_6 mw_X11_isSlot rfl (Or.inl ⟨rfl, ml_X11_271⟩) sm_X11_isSlot rfl (Nat.le_of_ble_eq_true rfl) (z2081_X11_isSlot (fr := fr) y hb_y h1) (fun v M2 hq => ?_)
  obtain ⟨rfl, h2⟩ := hq
  show AW X _ 0 0 9 _ [.int 1] _ _
  refine a_if_eq 19 dX11_equal_9 (by decide) (fun c => absurd c (by decide)) (fun _ => ?_)
  refine a_iload_n dX11_equal_12 rfl rfl ?_
  refine a_callS (As := [.int y]) (st := []) (bc := 0) (bs := 0) (mc := 0) (ms := 0) false dX11_equal_13 mw_X11_isSlot rfl (Or.inl ⟨rfl, ml_X11_271⟩) sm_X11_isSlot rfl (Nat.le_of_ble_eq_true rfl) (z2082_X11_isSlot (fr := fr) y hb_y h2) (fun v M3 hq => ?_)
  obtain ⟨rfl, h3⟩ := hq
  show AW X _ 0 0 16 _ [.int 0] _ _
  refine a_if_ne 22 dX11_equal_16 (by decide) (fun c => absurd (by decide) c) (fun _ => ?_)
  refine a_bipush (v := (-2)) dX11_equal_19 (by decide) ?_
  exact a_iret dX11_equal_21 rfl ⟨by first | rfl | decide +kernel | simp [*], trivial⟩
set_option maxHeartbeats 4000000 in
set_option maxRecDepth 100000 in
theorem z2083_X11_isSlot {X : Nat × (Nat → Int32)} {fr : Nat} {M : Mem} (y : Int32) (hv_y : ¬ (y < 0 ∨ 4 ≤ y)) (h0 : Cm (up2 fs42 89 0 0) M) : AM yX11_isSlot cX11_isSlot 1 (some .boolean) true (fr + 11) 0 0 X [.int 0] M (fun v M1 => v = some (.int 1) ∧ Cm (up2 fs42 89 0 0) M1) := by
  refine AM.of false (by decide +kernel) (by intro h; cases h) (Nat.le_of_ble_eq_true rfl) ?_
  show AW X (RX11, cX11_isSlot, 1, (some .boolean), false, true, fr + 11) 0 0 0 [(0, .int 0)] [] M _
  refine a_iload_n dX11_isSlot_0 rfl rfl ?_
  refine a_i2l dX11_isSlot_1 ?_
  refine a_st (st2 := [.long 0]) (by first | decide +kernel | (refine congrArg (fun z => Value.int z :: []) ?_; decide +kernel) | (refine congrArg (fun z => Value.long z :: []) ?_; decide +kernel)) ?_
  refine a_lconst (v := 0) dX11_isSlot_2 (by decide) ?_
  refine a_ldc2 dX11_isSlot_3 co_X11_281 ?_
  refine a_callS (As := [.long 0, .long 0, .long 3]) (st := []) (bc := 0) (bs := 0) (mc := 0) (ms := 0) false dX11_isSlot_6 mw_X11_isIn rfl (Or.inl ⟨rfl, ml_X11_180⟩) sm_X11_isIn rfl (Nat.le_of_ble_eq_true rfl) (k_isIn (fr := fr + 10) 0 0 3) (fun v M1 hq => ?_)
  obtain ⟨rfl, hM1⟩ := hq
  rw [hM1]
  clear hM1 M1
  refine a_st (st2 := [.int 1]) (by first | decide +kernel | (refine congrArg (fun z => Value.int z :: []) ?_; decide +kernel) | (refine congrArg (fun z => Value.long z :: []) ?_; decide +kernel)) ?_
  exact a_zret dX11_isSlot_9 rfl (by first | decide | (split <;> rfl)) ⟨rfl, h0⟩
set_option maxHeartbeats 4000000 in
set_option maxRecDepth 100000 in
theorem z2084_X11_isSlot {X : Nat × (Nat → Int32)} {fr : Nat} {M : Mem} (y : Int32) (hv_y : ¬ (y < 0 ∨ 4 ≤ y)) (h0 : Cm (up2 fs42 89 0 0) M) : AM yX11_isSlot cX11_isSlot 1 (some .boolean) true (fr + 11) 0 0 X [.int y] M (fun v M1 => v = some (.int 1) ∧ Cm (up2 fs42 89 0 0) M1) := by
  refine AM.of false (by decide +kernel) (by intro h; cases h) (Nat.le_of_ble_eq_true rfl) ?_
  show AW X (RX11, cX11_isSlot, 1, (some .boolean), false, true, fr + 11) 0 0 0 [(0, .int y)] [] M _
  refine a_iload_n dX11_isSlot_0 rfl rfl ?_
  refine a_i2l dX11_isSlot_1 ?_
  refine a_lconst (v := 0) dX11_isSlot_2 (by decide) ?_
  refine a_ldc2 dX11_isSlot_3 co_X11_281 ?_
  refine a_callS (As := [.long (Int32.toInt64 y), .long 0, .long 3]) (st := []) (bc := 0) (bs := 0) (mc := 0) (ms := 0) false dX11_isSlot_6 mw_X11_isIn rfl (Or.inl ⟨rfl, ml_X11_180⟩) sm_X11_isIn rfl (Nat.le_of_ble_eq_true rfl) (k_isIn (fr := fr + 10) (Int32.toInt64 y) 0 3) (fun v M1 hq => ?_)
  obtain ⟨rfl, hM1⟩ := hq
  rw [hM1]
  clear hM1 M1
  refine a_st (st2 := [.int 1]) (by exact congrArg (fun z => Value.int z :: []) ((isin_s y).trans (if_neg hv_y))) ?_
  exact a_zret dX11_isSlot_9 rfl (by first | decide | (split <;> rfl)) ⟨rfl, h0⟩
set_option maxHeartbeats 4000000 in
set_option maxRecDepth 100000 in
theorem z2085_X11_isEmpty {X : Nat × (Nat → Int32)} {fr : Nat} {M : Mem} (y : Int32) (hv_y : ¬ (y < 0 ∨ 4 ≤ y)) (h0 : Cm (up2 fs42 89 0 0) M) : AM yX11_isEmpty cX11_isEmpty 2 (some .boolean) true (fr + 11) 0 0 X [.ref 89, .int 0] M (fun v M1 => v = some (.int 1) ∧ Cm (up2 fs42 89 0 0) M1) := by
  refine AM.of false (by decide +kernel) (by intro h; cases h) (Nat.le_of_ble_eq_true rfl) ?_
  show AW X (RX11, cX11_isEmpty, 2, (some .boolean), false, true, fr + 11) 0 0 0 [(0, .ref 89), (1, .int 0)] [] M _
  refine a_aload_n dX11_isEmpty_0 rfl rfl ?_
  refine a_get (v := .ref 104) dX11_isEmpty_1 fl_11_56 (cm_l h0 (by decide)) (cm_s h0 (by decide) rfl) (cm_g h0 rfl (by decide +kernel)) ?_
  refine a_iload_n dX11_isEmpty_4 rfl rfl ?_
  refine a_iaload dX11_isEmpty_5 (cm_l h0 (by decide)) (cm_s h0 (by decide) rfl) (by unfold vp_in; decide +kernel) ?_
  rw [show M.2.2.1 104 (Int32.toNatClampNeg 0) = 0 from (cm_i h0 (by decide)).trans (by first | decide +kernel | rfl)]
  refine a_if_ne 13 dX11_isEmpty_6 (by decide) (fun c => absurd (by decide) c) (fun _ => ?_)
  refine a_iconst (v := 1) dX11_isEmpty_9 (by decide) ?_
  refine a_goto 14 dX11_isEmpty_10 (by decide) ?_
  exact a_zret dX11_isEmpty_14 rfl (by first | decide | (split <;> rfl)) ⟨rfl, h0⟩
set_option maxHeartbeats 4000000 in
set_option maxRecDepth 100000 in
theorem q_equal_0 {X : Nat × (Nat → Int32)} {fr : Nat} {M : Mem} (y : Int32) (hv_y : ¬ (y < 0 ∨ 4 ≤ y)) (h0 : Cm fs42 M) : AM yX11_equal cX11_equal 4 (some .int) true (fr + 12) 0 0 X [.ref 89, .int 0, .int y] M (fun v M1 => v = some (.int (-5)) ∧ True) := by
  refine AM.of false (by decide +kernel) (by intro h; cases h) (Nat.le_of_ble_eq_true rfl) ?_
  show AW X (RX11, cX11_equal, 4, (some .int), false, true, fr + 12) 0 0 0 [(0, .ref 89), (1, .int 0), (2, .int y)] [] M _
  refine a_aload_n dX11_equal_0 rfl rfl ?_
  refine a_iconst (v := 0) dX11_equal_1 (by decide) ?_
  refine a_putI dX11_equal_2 (Or.inl ⟨fl_11_1, Or.inl rfl⟩) rfl (cm_l h0 (by decide)) (cm_s h0 (by decide) rfl) rfl rfl ?_
  have h1 : Cm (up2 fs42 89 0 0) (wI M 89 0 0) := cm_I h0 (by decide)
  generalize (wI M 89 0 0) = M1 at h1 ⊢
  refine a_iload_n dX11_equal_5 rfl rfl ?_
  refine a_callS (As := [.int 0]) (st := []) (bc := 0) (bs := 0) (mc := 0) (ms := 0) false dX11_equal_6 mw_X11_isSlot rfl (Or.inl ⟨rfl, ml_X11_271⟩) sm_X11_isSlot rfl (Nat.le_of_ble_eq_true rfl) (z2083_X11_isSlot (fr := fr) y hv_y h1) (fun v M2 hq => ?_)
  obtain ⟨rfl, h2⟩ := hq
  show AW X _ 0 0 9 _ [.int 1] _ _
  refine a_if_eq 19 dX11_equal_9 (by decide) (fun c => absurd c (by decide)) (fun _ => ?_)
  refine a_iload_n dX11_equal_12 rfl rfl ?_
  refine a_callS (As := [.int y]) (st := []) (bc := 0) (bs := 0) (mc := 0) (ms := 0) false dX11_equal_13 mw_X11_isSlot rfl (Or.inl ⟨rfl, ml_X11_271⟩) sm_X11_isSlot rfl (Nat.le_of_ble_eq_true rfl) (z2084_X11_isSlot (fr := fr) y hv_y h2) (fun v M3 hq => ?_)
  obtain ⟨rfl, h3⟩ := hq
  show AW X _ 0 0 16 _ [.int 1] _ _
  refine a_if_ne 22 dX11_equal_16 (by decide) (fun _ => ?_) (fun c => absurd c (by decide))
  refine a_aload_n dX11_equal_22 rfl rfl ?_
  refine a_iload_n dX11_equal_23 rfl rfl ?_
  refine a_callV (As := [.int 0]) (st := []) (a := 89) (ci := 11) (bc := 0) (bs := 0) (mc := 0) (ms := 0) false dX11_equal_24 mw_X11_isEmpty rfl (Or.inl ⟨rfl, ml_X11_343⟩) im_X11_isEmpty se_X11_isEmpty (by decide) (cm_l h3 (by decide)) (cm_s h3 (by decide) rfl) rfl (Nat.le_of_ble_eq_true rfl) (z2085_X11_isEmpty (fr := fr) y hv_y h3) (fun v M4 hq => ?_)
  obtain ⟨rfl, h4⟩ := hq
  show AW X _ 0 0 27 _ [.int 1] _ _
  refine a_if_ne 38 dX11_equal_27 (by decide) (fun _ => ?_) (fun c => absurd c (by decide))
  refine a_bipush (v := (-5)) dX11_equal_38 (by decide) ?_
  exact a_iret dX11_equal_40 rfl ⟨by first | rfl | decide +kernel | simp [*], trivial⟩
set_option maxHeartbeats 4000000 in
set_option maxRecDepth 100000 in
theorem z2086_X11_isSlot {X : Nat × (Nat → Int32)} {fr : Nat} {M : Mem} (y : Int32) (hb_y : y < 0 ∨ 4 ≤ y) (h0 : Cm (up2 fs42 89 0 0) M) : AM yX11_isSlot cX11_isSlot 1 (some .boolean) true (fr + 11) 0 0 X [.int 1] M (fun v M1 => v = some (.int 1) ∧ Cm (up2 fs42 89 0 0) M1) := by
  refine AM.of false (by decide +kernel) (by intro h; cases h) (Nat.le_of_ble_eq_true rfl) ?_
  show AW X (RX11, cX11_isSlot, 1, (some .boolean), false, true, fr + 11) 0 0 0 [(0, .int 1)] [] M _
  refine a_iload_n dX11_isSlot_0 rfl rfl ?_
  refine a_i2l dX11_isSlot_1 ?_
  refine a_st (st2 := [.long 1]) (by first | decide +kernel | (refine congrArg (fun z => Value.int z :: []) ?_; decide +kernel) | (refine congrArg (fun z => Value.long z :: []) ?_; decide +kernel)) ?_
  refine a_lconst (v := 0) dX11_isSlot_2 (by decide) ?_
  refine a_ldc2 dX11_isSlot_3 co_X11_281 ?_
  refine a_callS (As := [.long 1, .long 0, .long 3]) (st := []) (bc := 0) (bs := 0) (mc := 0) (ms := 0) false dX11_isSlot_6 mw_X11_isIn rfl (Or.inl ⟨rfl, ml_X11_180⟩) sm_X11_isIn rfl (Nat.le_of_ble_eq_true rfl) (k_isIn (fr := fr + 10) 1 0 3) (fun v M1 hq => ?_)
  obtain ⟨rfl, hM1⟩ := hq
  rw [hM1]
  clear hM1 M1
  refine a_st (st2 := [.int 1]) (by first | decide +kernel | (refine congrArg (fun z => Value.int z :: []) ?_; decide +kernel) | (refine congrArg (fun z => Value.long z :: []) ?_; decide +kernel)) ?_
  exact a_zret dX11_isSlot_9 rfl (by first | decide | (split <;> rfl)) ⟨rfl, h0⟩
set_option maxHeartbeats 4000000 in
set_option maxRecDepth 100000 in
theorem q_equal_1b {X : Nat × (Nat → Int32)} {fr : Nat} {M : Mem} (y : Int32) (hb_y : y < 0 ∨ 4 ≤ y) (h0 : Cm fs42 M) : AM yX11_equal cX11_equal 4 (some .int) true (fr + 12) 0 0 X [.ref 89, .int 1, .int y] M (fun v M1 => v = some (.int (-2)) ∧ True) := by
  refine AM.of false (by decide +kernel) (by intro h; cases h) (Nat.le_of_ble_eq_true rfl) ?_
  show AW X (RX11, cX11_equal, 4, (some .int), false, true, fr + 12) 0 0 0 [(0, .ref 89), (1, .int 1), (2, .int y)] [] M _
  refine a_aload_n dX11_equal_0 rfl rfl ?_
  refine a_iconst (v := 0) dX11_equal_1 (by decide) ?_
  refine a_putI dX11_equal_2 (Or.inl ⟨fl_11_1, Or.inl rfl⟩) rfl (cm_l h0 (by decide)) (cm_s h0 (by decide) rfl) rfl rfl ?_
  have h1 : Cm (up2 fs42 89 0 0) (wI M 89 0 0) := cm_I h0 (by decide)
  generalize (wI M 89 0 0) = M1 at h1 ⊢
  refine a_iload_n dX11_equal_5 rfl rfl ?_
  refine a_callS (As := [.int 1]) (st := []) (bc := 0) (bs := 0) (mc := 0) (ms := 0) false dX11_equal_6 mw_X11_isSlot rfl (Or.inl ⟨rfl, ml_X11_271⟩) sm_X11_isSlot rfl (Nat.le_of_ble_eq_true rfl) (z2086_X11_isSlot (fr := fr) y hb_y h1) (fun v M2 hq => ?_)
  obtain ⟨rfl, h2⟩ := hq
  show AW X _ 0 0 9 _ [.int 1] _ _
  refine a_if_eq 19 dX11_equal_9 (by decide) (fun c => absurd c (by decide)) (fun _ => ?_)
  refine a_iload_n dX11_equal_12 rfl rfl ?_
  refine a_callS (As := [.int y]) (st := []) (bc := 0) (bs := 0) (mc := 0) (ms := 0) false dX11_equal_13 mw_X11_isSlot rfl (Or.inl ⟨rfl, ml_X11_271⟩) sm_X11_isSlot rfl (Nat.le_of_ble_eq_true rfl) (z2082_X11_isSlot (fr := fr) y hb_y h2) (fun v M3 hq => ?_)
  obtain ⟨rfl, h3⟩ := hq
  show AW X _ 0 0 16 _ [.int 0] _ _
  refine a_if_ne 22 dX11_equal_16 (by decide) (fun c => absurd (by decide) c) (fun _ => ?_)
  refine a_bipush (v := (-2)) dX11_equal_19 (by decide) ?_
  exact a_iret dX11_equal_21 rfl ⟨by first | rfl | decide +kernel | simp [*], trivial⟩
set_option maxHeartbeats 4000000 in
set_option maxRecDepth 100000 in
theorem z2087_X11_isSlot {X : Nat × (Nat → Int32)} {fr : Nat} {M : Mem} (y : Int32) (hv_y : ¬ (y < 0 ∨ 4 ≤ y)) (h0 : Cm (up2 fs42 89 0 0) M) : AM yX11_isSlot cX11_isSlot 1 (some .boolean) true (fr + 11) 0 0 X [.int 1] M (fun v M1 => v = some (.int 1) ∧ Cm (up2 fs42 89 0 0) M1) := by
  refine AM.of false (by decide +kernel) (by intro h; cases h) (Nat.le_of_ble_eq_true rfl) ?_
  show AW X (RX11, cX11_isSlot, 1, (some .boolean), false, true, fr + 11) 0 0 0 [(0, .int 1)] [] M _
  refine a_iload_n dX11_isSlot_0 rfl rfl ?_
  refine a_i2l dX11_isSlot_1 ?_
  refine a_st (st2 := [.long 1]) (by first | decide +kernel | (refine congrArg (fun z => Value.int z :: []) ?_; decide +kernel) | (refine congrArg (fun z => Value.long z :: []) ?_; decide +kernel)) ?_
  refine a_lconst (v := 0) dX11_isSlot_2 (by decide) ?_
  refine a_ldc2 dX11_isSlot_3 co_X11_281 ?_
  refine a_callS (As := [.long 1, .long 0, .long 3]) (st := []) (bc := 0) (bs := 0) (mc := 0) (ms := 0) false dX11_isSlot_6 mw_X11_isIn rfl (Or.inl ⟨rfl, ml_X11_180⟩) sm_X11_isIn rfl (Nat.le_of_ble_eq_true rfl) (k_isIn (fr := fr + 10) 1 0 3) (fun v M1 hq => ?_)
  obtain ⟨rfl, hM1⟩ := hq
  rw [hM1]
  clear hM1 M1
  refine a_st (st2 := [.int 1]) (by first | decide +kernel | (refine congrArg (fun z => Value.int z :: []) ?_; decide +kernel) | (refine congrArg (fun z => Value.long z :: []) ?_; decide +kernel)) ?_
  exact a_zret dX11_isSlot_9 rfl (by first | decide | (split <;> rfl)) ⟨rfl, h0⟩
set_option maxHeartbeats 4000000 in
set_option maxRecDepth 100000 in
theorem z2088_X11_isEmpty {X : Nat × (Nat → Int32)} {fr : Nat} {M : Mem} (y : Int32) (hv_y : ¬ (y < 0 ∨ 4 ≤ y)) (h0 : Cm (up2 fs42 89 0 0) M) : AM yX11_isEmpty cX11_isEmpty 2 (some .boolean) true (fr + 11) 0 0 X [.ref 89, .int 1] M (fun v M1 => v = some (.int 1) ∧ Cm (up2 fs42 89 0 0) M1) := by
  refine AM.of false (by decide +kernel) (by intro h; cases h) (Nat.le_of_ble_eq_true rfl) ?_
  show AW X (RX11, cX11_isEmpty, 2, (some .boolean), false, true, fr + 11) 0 0 0 [(0, .ref 89), (1, .int 1)] [] M _
  refine a_aload_n dX11_isEmpty_0 rfl rfl ?_
  refine a_get (v := .ref 104) dX11_isEmpty_1 fl_11_56 (cm_l h0 (by decide)) (cm_s h0 (by decide) rfl) (cm_g h0 rfl (by decide +kernel)) ?_
  refine a_iload_n dX11_isEmpty_4 rfl rfl ?_
  refine a_iaload dX11_isEmpty_5 (cm_l h0 (by decide)) (cm_s h0 (by decide) rfl) (by unfold vp_in; decide +kernel) ?_
  rw [show M.2.2.1 104 (Int32.toNatClampNeg 1) = 0 from (cm_i h0 (by decide)).trans (by first | decide +kernel | rfl)]
  refine a_if_ne 13 dX11_isEmpty_6 (by decide) (fun c => absurd (by decide) c) (fun _ => ?_)
  refine a_iconst (v := 1) dX11_isEmpty_9 (by decide) ?_
  refine a_goto 14 dX11_isEmpty_10 (by decide) ?_
  exact a_zret dX11_isEmpty_14 rfl (by first | decide | (split <;> rfl)) ⟨rfl, h0⟩
set_option maxHeartbeats 4000000 in
set_option maxRecDepth 100000 in
theorem q_equal_1 {X : Nat × (Nat → Int32)} {fr : Nat} {M : Mem} (y : Int32) (hv_y : ¬ (y < 0 ∨ 4 ≤ y)) (h0 : Cm fs42 M) : AM yX11_equal cX11_equal 4 (some .int) true (fr + 12) 0 0 X [.ref 89, .int 1, .int y] M (fun v M1 => v = some (.int (-5)) ∧ True) := by
  refine AM.of false (by decide +kernel) (by intro h; cases h) (Nat.le_of_ble_eq_true rfl) ?_
  show AW X (RX11, cX11_equal, 4, (some .int), false, true, fr + 12) 0 0 0 [(0, .ref 89), (1, .int 1), (2, .int y)] [] M _
  refine a_aload_n dX11_equal_0 rfl rfl ?_
  refine a_iconst (v := 0) dX11_equal_1 (by decide) ?_
  refine a_putI dX11_equal_2 (Or.inl ⟨fl_11_1, Or.inl rfl⟩) rfl (cm_l h0 (by decide)) (cm_s h0 (by decide) rfl) rfl rfl ?_
  have h1 : Cm (up2 fs42 89 0 0) (wI M 89 0 0) := cm_I h0 (by decide)
  generalize (wI M 89 0 0) = M1 at h1 ⊢
  refine a_iload_n dX11_equal_5 rfl rfl ?_
  refine a_callS (As := [.int 1]) (st := []) (bc := 0) (bs := 0) (mc := 0) (ms := 0) false dX11_equal_6 mw_X11_isSlot rfl (Or.inl ⟨rfl, ml_X11_271⟩) sm_X11_isSlot rfl (Nat.le_of_ble_eq_true rfl) (z2087_X11_isSlot (fr := fr) y hv_y h1) (fun v M2 hq => ?_)
  obtain ⟨rfl, h2⟩ := hq
  show AW X _ 0 0 9 _ [.int 1] _ _
  refine a_if_eq 19 dX11_equal_9 (by decide) (fun c => absurd c (by decide)) (fun _ => ?_)
  refine a_iload_n dX11_equal_12 rfl rfl ?_
  refine a_callS (As := [.int y]) (st := []) (bc := 0) (bs := 0) (mc := 0) (ms := 0) false dX11_equal_13 mw_X11_isSlot rfl (Or.inl ⟨rfl, ml_X11_271⟩) sm_X11_isSlot rfl (Nat.le_of_ble_eq_true rfl) (z2084_X11_isSlot (fr := fr) y hv_y h2) (fun v M3 hq => ?_)
  obtain ⟨rfl, h3⟩ := hq
  show AW X _ 0 0 16 _ [.int 1] _ _
  refine a_if_ne 22 dX11_equal_16 (by decide) (fun _ => ?_) (fun c => absurd c (by decide))
  refine a_aload_n dX11_equal_22 rfl rfl ?_
  refine a_iload_n dX11_equal_23 rfl rfl ?_
  refine a_callV (As := [.int 1]) (st := []) (a := 89) (ci := 11) (bc := 0) (bs := 0) (mc := 0) (ms := 0) false dX11_equal_24 mw_X11_isEmpty rfl (Or.inl ⟨rfl, ml_X11_343⟩) im_X11_isEmpty se_X11_isEmpty (by decide) (cm_l h3 (by decide)) (cm_s h3 (by decide) rfl) rfl (Nat.le_of_ble_eq_true rfl) (z2088_X11_isEmpty (fr := fr) y hv_y h3) (fun v M4 hq => ?_)
  obtain ⟨rfl, h4⟩ := hq
  show AW X _ 0 0 27 _ [.int 1] _ _
  refine a_if_ne 38 dX11_equal_27 (by decide) (fun _ => ?_) (fun c => absurd c (by decide))
  refine a_bipush (v := (-5)) dX11_equal_38 (by decide) ?_
  exact a_iret dX11_equal_40 rfl ⟨by first | rfl | decide +kernel | simp [*], trivial⟩
set_option maxHeartbeats 4000000 in
set_option maxRecDepth 100000 in
theorem z2089_X11_isSlot {X : Nat × (Nat → Int32)} {fr : Nat} {M : Mem} (y : Int32) (hb_y : y < 0 ∨ 4 ≤ y) (h0 : Cm (up2 fs42 89 0 0) M) : AM yX11_isSlot cX11_isSlot 1 (some .boolean) true (fr + 11) 0 0 X [.int 2] M (fun v M1 => v = some (.int 1) ∧ Cm (up2 fs42 89 0 0) M1) := by
  refine AM.of false (by decide +kernel) (by intro h; cases h) (Nat.le_of_ble_eq_true rfl) ?_
  show AW X (RX11, cX11_isSlot, 1, (some .boolean), false, true, fr + 11) 0 0 0 [(0, .int 2)] [] M _
  refine a_iload_n dX11_isSlot_0 rfl rfl ?_
  refine a_i2l dX11_isSlot_1 ?_
  refine a_st (st2 := [.long 2]) (by first | decide +kernel | (refine congrArg (fun z => Value.int z :: []) ?_; decide +kernel) | (refine congrArg (fun z => Value.long z :: []) ?_; decide +kernel)) ?_
  refine a_lconst (v := 0) dX11_isSlot_2 (by decide) ?_
  refine a_ldc2 dX11_isSlot_3 co_X11_281 ?_
  refine a_callS (As := [.long 2, .long 0, .long 3]) (st := []) (bc := 0) (bs := 0) (mc := 0) (ms := 0) false dX11_isSlot_6 mw_X11_isIn rfl (Or.inl ⟨rfl, ml_X11_180⟩) sm_X11_isIn rfl (Nat.le_of_ble_eq_true rfl) (k_isIn (fr := fr + 10) 2 0 3) (fun v M1 hq => ?_)
  obtain ⟨rfl, hM1⟩ := hq
  rw [hM1]
  clear hM1 M1
  refine a_st (st2 := [.int 1]) (by first | decide +kernel | (refine congrArg (fun z => Value.int z :: []) ?_; decide +kernel) | (refine congrArg (fun z => Value.long z :: []) ?_; decide +kernel)) ?_
  exact a_zret dX11_isSlot_9 rfl (by first | decide | (split <;> rfl)) ⟨rfl, h0⟩
set_option maxHeartbeats 4000000 in
set_option maxRecDepth 100000 in
theorem q_equal_2b {X : Nat × (Nat → Int32)} {fr : Nat} {M : Mem} (y : Int32) (hb_y : y < 0 ∨ 4 ≤ y) (h0 : Cm fs42 M) : AM yX11_equal cX11_equal 4 (some .int) true (fr + 12) 0 0 X [.ref 89, .int 2, .int y] M (fun v M1 => v = some (.int (-2)) ∧ True) := by
  refine AM.of false (by decide +kernel) (by intro h; cases h) (Nat.le_of_ble_eq_true rfl) ?_
  show AW X (RX11, cX11_equal, 4, (some .int), false, true, fr + 12) 0 0 0 [(0, .ref 89), (1, .int 2), (2, .int y)] [] M _
  refine a_aload_n dX11_equal_0 rfl rfl ?_
  refine a_iconst (v := 0) dX11_equal_1 (by decide) ?_
  refine a_putI dX11_equal_2 (Or.inl ⟨fl_11_1, Or.inl rfl⟩) rfl (cm_l h0 (by decide)) (cm_s h0 (by decide) rfl) rfl rfl ?_
  have h1 : Cm (up2 fs42 89 0 0) (wI M 89 0 0) := cm_I h0 (by decide)
  generalize (wI M 89 0 0) = M1 at h1 ⊢
  refine a_iload_n dX11_equal_5 rfl rfl ?_
  refine a_callS (As := [.int 2]) (st := []) (bc := 0) (bs := 0) (mc := 0) (ms := 0) false dX11_equal_6 mw_X11_isSlot rfl (Or.inl ⟨rfl, ml_X11_271⟩) sm_X11_isSlot rfl (Nat.le_of_ble_eq_true rfl) (z2089_X11_isSlot (fr := fr) y hb_y h1) (fun v M2 hq => ?_)
  obtain ⟨rfl, h2⟩ := hq
  show AW X _ 0 0 9 _ [.int 1] _ _
  refine a_if_eq 19 dX11_equal_9 (by decide) (fun c => absurd c (by decide)) (fun _ => ?_)
  refine a_iload_n dX11_equal_12 rfl rfl ?_
  refine a_callS (As := [.int y]) (st := []) (bc := 0) (bs := 0) (mc := 0) (ms := 0) false dX11_equal_13 mw_X11_isSlot rfl (Or.inl ⟨rfl, ml_X11_271⟩) sm_X11_isSlot rfl (Nat.le_of_ble_eq_true rfl) (z2082_X11_isSlot (fr := fr) y hb_y h2) (fun v M3 hq => ?_)
  obtain ⟨rfl, h3⟩ := hq
  show AW X _ 0 0 16 _ [.int 0] _ _
  refine a_if_ne 22 dX11_equal_16 (by decide) (fun c => absurd (by decide) c) (fun _ => ?_)
  refine a_bipush (v := (-2)) dX11_equal_19 (by decide) ?_
  exact a_iret dX11_equal_21 rfl ⟨by first | rfl | decide +kernel | simp [*], trivial⟩
set_option maxHeartbeats 4000000 in
set_option maxRecDepth 100000 in
theorem z2090_X11_isSlot {X : Nat × (Nat → Int32)} {fr : Nat} {M : Mem} (y : Int32) (hv_y : ¬ (y < 0 ∨ 4 ≤ y)) (h0 : Cm (up2 fs42 89 0 0) M) : AM yX11_isSlot cX11_isSlot 1 (some .boolean) true (fr + 11) 0 0 X [.int 2] M (fun v M1 => v = some (.int 1) ∧ Cm (up2 fs42 89 0 0) M1) := by
  refine AM.of false (by decide +kernel) (by intro h; cases h) (Nat.le_of_ble_eq_true rfl) ?_
  show AW X (RX11, cX11_isSlot, 1, (some .boolean), false, true, fr + 11) 0 0 0 [(0, .int 2)] [] M _
  refine a_iload_n dX11_isSlot_0 rfl rfl ?_
  refine a_i2l dX11_isSlot_1 ?_
  refine a_st (st2 := [.long 2]) (by first | decide +kernel | (refine congrArg (fun z => Value.int z :: []) ?_; decide +kernel) | (refine congrArg (fun z => Value.long z :: []) ?_; decide +kernel)) ?_
  refine a_lconst (v := 0) dX11_isSlot_2 (by decide) ?_
  refine a_ldc2 dX11_isSlot_3 co_X11_281 ?_
  refine a_callS (As := [.long 2, .long 0, .long 3]) (st := []) (bc := 0) (bs := 0) (mc := 0) (ms := 0) false dX11_isSlot_6 mw_X11_isIn rfl (Or.inl ⟨rfl, ml_X11_180⟩) sm_X11_isIn rfl (Nat.le_of_ble_eq_true rfl) (k_isIn (fr := fr + 10) 2 0 3) (fun v M1 hq => ?_)
  obtain ⟨rfl, hM1⟩ := hq
  rw [hM1]
  clear hM1 M1
  refine a_st (st2 := [.int 1]) (by first | decide +kernel | (refine congrArg (fun z => Value.int z :: []) ?_; decide +kernel) | (refine congrArg (fun z => Value.long z :: []) ?_; decide +kernel)) ?_
  exact a_zret dX11_isSlot_9 rfl (by first | decide | (split <;> rfl)) ⟨rfl, h0⟩
set_option maxHeartbeats 4000000 in
set_option maxRecDepth 100000 in
theorem z2091_X11_isEmpty {X : Nat × (Nat → Int32)} {fr : Nat} {M : Mem} (y : Int32) (hv_y : ¬ (y < 0 ∨ 4 ≤ y)) (h0 : Cm (up2 fs42 89 0 0) M) : AM yX11_isEmpty cX11_isEmpty 2 (some .boolean) true (fr + 11) 0 0 X [.ref 89, .int 2] M (fun v M1 => v = some (.int 1) ∧ Cm (up2 fs42 89 0 0) M1) := by
  refine AM.of false (by decide +kernel) (by intro h; cases h) (Nat.le_of_ble_eq_true rfl) ?_
  show AW X (RX11, cX11_isEmpty, 2, (some .boolean), false, true, fr + 11) 0 0 0 [(0, .ref 89), (1, .int 2)] [] M _
  refine a_aload_n dX11_isEmpty_0 rfl rfl ?_
  refine a_get (v := .ref 104) dX11_isEmpty_1 fl_11_56 (cm_l h0 (by decide)) (cm_s h0 (by decide) rfl) (cm_g h0 rfl (by decide +kernel)) ?_
  refine a_iload_n dX11_isEmpty_4 rfl rfl ?_
  refine a_iaload dX11_isEmpty_5 (cm_l h0 (by decide)) (cm_s h0 (by decide) rfl) (by unfold vp_in; decide +kernel) ?_
  rw [show M.2.2.1 104 (Int32.toNatClampNeg 2) = 0 from (cm_i h0 (by decide)).trans (by first | decide +kernel | rfl)]
  refine a_if_ne 13 dX11_isEmpty_6 (by decide) (fun c => absurd (by decide) c) (fun _ => ?_)
  refine a_iconst (v := 1) dX11_isEmpty_9 (by decide) ?_
  refine a_goto 14 dX11_isEmpty_10 (by decide) ?_
  exact a_zret dX11_isEmpty_14 rfl (by first | decide | (split <;> rfl)) ⟨rfl, h0⟩
set_option maxHeartbeats 4000000 in
set_option maxRecDepth 100000 in
theorem q_equal_2 {X : Nat × (Nat → Int32)} {fr : Nat} {M : Mem} (y : Int32) (hv_y : ¬ (y < 0 ∨ 4 ≤ y)) (h0 : Cm fs42 M) : AM yX11_equal cX11_equal 4 (some .int) true (fr + 12) 0 0 X [.ref 89, .int 2, .int y] M (fun v M1 => v = some (.int (-5)) ∧ True) := by
  refine AM.of false (by decide +kernel) (by intro h; cases h) (Nat.le_of_ble_eq_true rfl) ?_
  show AW X (RX11, cX11_equal, 4, (some .int), false, true, fr + 12) 0 0 0 [(0, .ref 89), (1, .int 2), (2, .int y)] [] M _
  refine a_aload_n dX11_equal_0 rfl rfl ?_
  refine a_iconst (v := 0) dX11_equal_1 (by decide) ?_
  refine a_putI dX11_equal_2 (Or.inl ⟨fl_11_1, Or.inl rfl⟩) rfl (cm_l h0 (by decide)) (cm_s h0 (by decide) rfl) rfl rfl ?_
  have h1 : Cm (up2 fs42 89 0 0) (wI M 89 0 0) := cm_I h0 (by decide)
  generalize (wI M 89 0 0) = M1 at h1 ⊢
  refine a_iload_n dX11_equal_5 rfl rfl ?_
  refine a_callS (As := [.int 2]) (st := []) (bc := 0) (bs := 0) (mc := 0) (ms := 0) false dX11_equal_6 mw_X11_isSlot rfl (Or.inl ⟨rfl, ml_X11_271⟩) sm_X11_isSlot rfl (Nat.le_of_ble_eq_true rfl) (z2090_X11_isSlot (fr := fr) y hv_y h1) (fun v M2 hq => ?_)
  obtain ⟨rfl, h2⟩ := hq
  show AW X _ 0 0 9 _ [.int 1] _ _
  refine a_if_eq 19 dX11_equal_9 (by decide) (fun c => absurd c (by decide)) (fun _ => ?_)
  refine a_iload_n dX11_equal_12 rfl rfl ?_
  refine a_callS (As := [.int y]) (st := []) (bc := 0) (bs := 0) (mc := 0) (ms := 0) false dX11_equal_13 mw_X11_isSlot rfl (Or.inl ⟨rfl, ml_X11_271⟩) sm_X11_isSlot rfl (Nat.le_of_ble_eq_true rfl) (z2084_X11_isSlot (fr := fr) y hv_y h2) (fun v M3 hq => ?_)
  obtain ⟨rfl, h3⟩ := hq
  show AW X _ 0 0 16 _ [.int 1] _ _
  refine a_if_ne 22 dX11_equal_16 (by decide) (fun _ => ?_) (fun c => absurd c (by decide))
  refine a_aload_n dX11_equal_22 rfl rfl ?_
  refine a_iload_n dX11_equal_23 rfl rfl ?_
  refine a_callV (As := [.int 2]) (st := []) (a := 89) (ci := 11) (bc := 0) (bs := 0) (mc := 0) (ms := 0) false dX11_equal_24 mw_X11_isEmpty rfl (Or.inl ⟨rfl, ml_X11_343⟩) im_X11_isEmpty se_X11_isEmpty (by decide) (cm_l h3 (by decide)) (cm_s h3 (by decide) rfl) rfl (Nat.le_of_ble_eq_true rfl) (z2091_X11_isEmpty (fr := fr) y hv_y h3) (fun v M4 hq => ?_)
  obtain ⟨rfl, h4⟩ := hq
  show AW X _ 0 0 27 _ [.int 1] _ _
  refine a_if_ne 38 dX11_equal_27 (by decide) (fun _ => ?_) (fun c => absurd c (by decide))
  refine a_bipush (v := (-5)) dX11_equal_38 (by decide) ?_
  exact a_iret dX11_equal_40 rfl ⟨by first | rfl | decide +kernel | simp [*], trivial⟩
set_option maxHeartbeats 4000000 in
set_option maxRecDepth 100000 in
theorem z2092_X11_isSlot {X : Nat × (Nat → Int32)} {fr : Nat} {M : Mem} (y : Int32) (hb_y : y < 0 ∨ 4 ≤ y) (h0 : Cm (up2 fs42 89 0 0) M) : AM yX11_isSlot cX11_isSlot 1 (some .boolean) true (fr + 11) 0 0 X [.int 3] M (fun v M1 => v = some (.int 1) ∧ Cm (up2 fs42 89 0 0) M1) := by
  refine AM.of false (by decide +kernel) (by intro h; cases h) (Nat.le_of_ble_eq_true rfl) ?_
  show AW X (RX11, cX11_isSlot, 1, (some .boolean), false, true, fr + 11) 0 0 0 [(0, .int 3)] [] M _
  refine a_iload_n dX11_isSlot_0 rfl rfl ?_
  refine a_i2l dX11_isSlot_1 ?_
  refine a_st (st2 := [.long 3]) (by first | decide +kernel | (refine congrArg (fun z => Value.int z :: []) ?_; decide +kernel) | (refine congrArg (fun z => Value.long z :: []) ?_; decide +kernel)) ?_
  refine a_lconst (v := 0) dX11_isSlot_2 (by decide) ?_
  refine a_ldc2 dX11_isSlot_3 co_X11_281 ?_
  refine a_callS (As := [.long 3, .long 0, .long 3]) (st := []) (bc := 0) (bs := 0) (mc := 0) (ms := 0) false dX11_isSlot_6 mw_X11_isIn rfl (Or.inl ⟨rfl, ml_X11_180⟩) sm_X11_isIn rfl (Nat.le_of_ble_eq_true rfl) (k_isIn (fr := fr + 10) 3 0 3) (fun v M1 hq => ?_)
  obtain ⟨rfl, hM1⟩ := hq
  rw [hM1]
  clear hM1 M1
  refine a_st (st2 := [.int 1]) (by first | decide +kernel | (refine congrArg (fun z => Value.int z :: []) ?_; decide +kernel) | (refine congrArg (fun z => Value.long z :: []) ?_; decide +kernel)) ?_
  exact a_zret dX11_isSlot_9 rfl (by first | decide | (split <;> rfl)) ⟨rfl, h0⟩
set_option maxHeartbeats 4000000 in
set_option maxRecDepth 100000 in
theorem q_equal_3b {X : Nat × (Nat → Int32)} {fr : Nat} {M : Mem} (y : Int32) (hb_y : y < 0 ∨ 4 ≤ y) (h0 : Cm fs42 M) : AM yX11_equal cX11_equal 4 (some .int) true (fr + 12) 0 0 X [.ref 89, .int 3, .int y] M (fun v M1 => v = some (.int (-2)) ∧ True) := by
  refine AM.of false (by decide +kernel) (by intro h; cases h) (Nat.le_of_ble_eq_true rfl) ?_
  show AW X (RX11, cX11_equal, 4, (some .int), false, true, fr + 12) 0 0 0 [(0, .ref 89), (1, .int 3), (2, .int y)] [] M _
  refine a_aload_n dX11_equal_0 rfl rfl ?_
  refine a_iconst (v := 0) dX11_equal_1 (by decide) ?_
  refine a_putI dX11_equal_2 (Or.inl ⟨fl_11_1, Or.inl rfl⟩) rfl (cm_l h0 (by decide)) (cm_s h0 (by decide) rfl) rfl rfl ?_
  have h1 : Cm (up2 fs42 89 0 0) (wI M 89 0 0) := cm_I h0 (by decide)
  generalize (wI M 89 0 0) = M1 at h1 ⊢
  refine a_iload_n dX11_equal_5 rfl rfl ?_
  refine a_callS (As := [.int 3]) (st := []) (bc := 0) (bs := 0) (mc := 0) (ms := 0) false dX11_equal_6 mw_X11_isSlot rfl (Or.inl ⟨rfl, ml_X11_271⟩) sm_X11_isSlot rfl (Nat.le_of_ble_eq_true rfl) (z2092_X11_isSlot (fr := fr) y hb_y h1) (fun v M2 hq => ?_)
  obtain ⟨rfl, h2⟩ := hq
  show AW X _ 0 0 9 _ [.int 1] _ _
  refine a_if_eq 19 dX11_equal_9 (by decide) (fun c => absurd c (by decide)) (fun _ => ?_)
  refine a_iload_n dX11_equal_12 rfl rfl ?_
  refine a_callS (As := [.int y]) (st := []) (bc := 0) (bs := 0) (mc := 0) (ms := 0) false dX11_equal_13 mw_X11_isSlot rfl (Or.inl ⟨rfl, ml_X11_271⟩) sm_X11_isSlot rfl (Nat.le_of_ble_eq_true rfl) (z2082_X11_isSlot (fr := fr) y hb_y h2) (fun v M3 hq => ?_)
  obtain ⟨rfl, h3⟩ := hq
  show AW X _ 0 0 16 _ [.int 0] _ _
  refine a_if_ne 22 dX11_equal_16 (by decide) (fun c => absurd (by decide) c) (fun _ => ?_)
  refine a_bipush (v := (-2)) dX11_equal_19 (by decide) ?_
  exact a_iret dX11_equal_21 rfl ⟨by first | rfl | decide +kernel | simp [*], trivial⟩
set_option maxHeartbeats 4000000 in
set_option maxRecDepth 100000 in
theorem z2093_X11_isSlot {X : Nat × (Nat → Int32)} {fr : Nat} {M : Mem} (y : Int32) (hv_y : ¬ (y < 0 ∨ 4 ≤ y)) (h0 : Cm (up2 fs42 89 0 0) M) : AM yX11_isSlot cX11_isSlot 1 (some .boolean) true (fr + 11) 0 0 X [.int 3] M (fun v M1 => v = some (.int 1) ∧ Cm (up2 fs42 89 0 0) M1) := by
  refine AM.of false (by decide +kernel) (by intro h; cases h) (Nat.le_of_ble_eq_true rfl) ?_
  show AW X (RX11, cX11_isSlot, 1, (some .boolean), false, true, fr + 11) 0 0 0 [(0, .int 3)] [] M _
  refine a_iload_n dX11_isSlot_0 rfl rfl ?_
  refine a_i2l dX11_isSlot_1 ?_
  refine a_st (st2 := [.long 3]) (by first | decide +kernel | (refine congrArg (fun z => Value.int z :: []) ?_; decide +kernel) | (refine congrArg (fun z => Value.long z :: []) ?_; decide +kernel)) ?_
  refine a_lconst (v := 0) dX11_isSlot_2 (by decide) ?_
  refine a_ldc2 dX11_isSlot_3 co_X11_281 ?_
  refine a_callS (As := [.long 3, .long 0, .long 3]) (st := []) (bc := 0) (bs := 0) (mc := 0) (ms := 0) false dX11_isSlot_6 mw_X11_isIn rfl (Or.inl ⟨rfl, ml_X11_180⟩) sm_X11_isIn rfl (Nat.le_of_ble_eq_true rfl) (k_isIn (fr := fr + 10) 3 0 3) (fun v M1 hq => ?_)
  obtain ⟨rfl, hM1⟩ := hq
  rw [hM1]
  clear hM1 M1
  refine a_st (st2 := [.int 1]) (by first | decide +kernel | (refine congrArg (fun z => Value.int z :: []) ?_; decide +kernel) | (refine congrArg (fun z => Value.long z :: []) ?_; decide +kernel)) ?_
  exact a_zret dX11_isSlot_9 rfl (by first | decide | (split <;> rfl)) ⟨rfl, h0⟩
set_option maxHeartbeats 4000000 in
set_option maxRecDepth 100000 in
theorem z2094_X11_isEmpty {X : Nat × (Nat → Int32)} {fr : Nat} {M : Mem} (y : Int32) (hv_y : ¬ (y < 0 ∨ 4 ≤ y)) (h0 : Cm (up2 fs42 89 0 0) M) : AM yX11_isEmpty cX11_isEmpty 2 (some .boolean) true (fr + 11) 0 0 X [.ref 89, .int 3] M (fun v M1 => v = some (.int 1) ∧ Cm (up2 fs42 89 0 0) M1) := by
  refine AM.of false (by decide +kernel) (by intro h; cases h) (Nat.le_of_ble_eq_true rfl) ?_
  show AW X (RX11, cX11_isEmpty, 2, (some .boolean), false, true, fr + 11) 0 0 0 [(0, .ref 89), (1, .int 3)] [] M _
  refine a_aload_n dX11_isEmpty_0 rfl rfl ?_
  refine a_get (v := .ref 104) dX11_isEmpty_1 fl_11_56 (cm_l h0 (by decide)) (cm_s h0 (by decide) rfl) (cm_g h0 rfl (by decide +kernel)) ?_
  refine a_iload_n dX11_isEmpty_4 rfl rfl ?_
  refine a_iaload dX11_isEmpty_5 (cm_l h0 (by decide)) (cm_s h0 (by decide) rfl) (by unfold vp_in; decide +kernel) ?_
  rw [show M.2.2.1 104 (Int32.toNatClampNeg 3) = 0 from (cm_i h0 (by decide)).trans (by first | decide +kernel | rfl)]
  refine a_if_ne 13 dX11_isEmpty_6 (by decide) (fun c => absurd (by decide) c) (fun _ => ?_)
  refine a_iconst (v := 1) dX11_isEmpty_9 (by decide) ?_
  refine a_goto 14 dX11_isEmpty_10 (by decide) ?_
  exact a_zret dX11_isEmpty_14 rfl (by first | decide | (split <;> rfl)) ⟨rfl, h0⟩
set_option maxHeartbeats 4000000 in
set_option maxRecDepth 100000 in
theorem q_equal_3 {X : Nat × (Nat → Int32)} {fr : Nat} {M : Mem} (y : Int32) (hv_y : ¬ (y < 0 ∨ 4 ≤ y)) (h0 : Cm fs42 M) : AM yX11_equal cX11_equal 4 (some .int) true (fr + 12) 0 0 X [.ref 89, .int 3, .int y] M (fun v M1 => v = some (.int (-5)) ∧ True) := by
  refine AM.of false (by decide +kernel) (by intro h; cases h) (Nat.le_of_ble_eq_true rfl) ?_
  show AW X (RX11, cX11_equal, 4, (some .int), false, true, fr + 12) 0 0 0 [(0, .ref 89), (1, .int 3), (2, .int y)] [] M _
  refine a_aload_n dX11_equal_0 rfl rfl ?_
  refine a_iconst (v := 0) dX11_equal_1 (by decide) ?_
  refine a_putI dX11_equal_2 (Or.inl ⟨fl_11_1, Or.inl rfl⟩) rfl (cm_l h0 (by decide)) (cm_s h0 (by decide) rfl) rfl rfl ?_
  have h1 : Cm (up2 fs42 89 0 0) (wI M 89 0 0) := cm_I h0 (by decide)
  generalize (wI M 89 0 0) = M1 at h1 ⊢
  refine a_iload_n dX11_equal_5 rfl rfl ?_
  refine a_callS (As := [.int 3]) (st := []) (bc := 0) (bs := 0) (mc := 0) (ms := 0) false dX11_equal_6 mw_X11_isSlot rfl (Or.inl ⟨rfl, ml_X11_271⟩) sm_X11_isSlot rfl (Nat.le_of_ble_eq_true rfl) (z2093_X11_isSlot (fr := fr) y hv_y h1) (fun v M2 hq => ?_)
  obtain ⟨rfl, h2⟩ := hq
  show AW X _ 0 0 9 _ [.int 1] _ _
  refine a_if_eq 19 dX11_equal_9 (by decide) (fun c => absurd c (by decide)) (fun _ => ?_)
  refine a_iload_n dX11_equal_12 rfl rfl ?_
  refine a_callS (As := [.int y]) (st := []) (bc := 0) (bs := 0) (mc := 0) (ms := 0) false dX11_equal_13 mw_X11_isSlot rfl (Or.inl ⟨rfl, ml_X11_271⟩) sm_X11_isSlot rfl (Nat.le_of_ble_eq_true rfl) (z2084_X11_isSlot (fr := fr) y hv_y h2) (fun v M3 hq => ?_)
  obtain ⟨rfl, h3⟩ := hq
  show AW X _ 0 0 16 _ [.int 1] _ _
  refine a_if_ne 22 dX11_equal_16 (by decide) (fun _ => ?_) (fun c => absurd c (by decide))
  refine a_aload_n dX11_equal_22 rfl rfl ?_
  refine a_iload_n dX11_equal_23 rfl rfl ?_
  refine a_callV (As := [.int 3]) (st := []) (a := 89) (ci := 11) (bc := 0) (bs := 0) (mc := 0) (ms := 0) false dX11_equal_24 mw_X11_isEmpty rfl (Or.inl ⟨rfl, ml_X11_343⟩) im_X11_isEmpty se_X11_isEmpty (by decide) (cm_l h3 (by decide)) (cm_s h3 (by decide) rfl) rfl (Nat.le_of_ble_eq_true rfl) (z2094_X11_isEmpty (fr := fr) y hv_y h3) (fun v M4 hq => ?_)
  obtain ⟨rfl, h4⟩ := hq
  show AW X _ 0 0 27 _ [.int 1] _ _
  refine a_if_ne 38 dX11_equal_27 (by decide) (fun _ => ?_) (fun c => absurd c (by decide))
  refine a_bipush (v := (-5)) dX11_equal_38 (by decide) ?_
  exact a_iret dX11_equal_40 rfl ⟨by first | rfl | decide +kernel | simp [*], trivial⟩
set_option maxHeartbeats 4000000 in
set_option maxRecDepth 100000 in
theorem q_alike_b {X : Nat × (Nat → Int32)} {fr : Nat} {M : Mem} (x : Int32) (y : Int32) (hb_x : x < 0 ∨ 4 ≤ x) (h0 : Cm fs42 M) : AM yX11_alike cX11_alike 5 (some .int) true (fr + 12) 0 0 X [.ref 89, .int x, .int y] M (fun v M1 => v = some (.int (-2)) ∧ True) := by
  refine AM.of false (by decide +kernel) (by intro h; cases h) (Nat.le_of_ble_eq_true rfl) ?_
  show AW X (RX11, cX11_alike, 5, (some .int), false, true, fr + 12) 0 0 0 [(0, .ref 89), (1, .int x), (2, .int y)] [] M _
  refine a_aload_n dX11_alike_0 rfl rfl ?_
  refine a_iconst (v := 0) dX11_alike_1 (by decide) ?_
  refine a_putI dX11_alike_2 (Or.inl ⟨fl_11_1, Or.inl rfl⟩) rfl (cm_l h0 (by decide)) (cm_s h0 (by decide) rfl) rfl rfl ?_
  have h1 : Cm (up2 fs42 89 0 0) (wI M 89 0 0) := cm_I h0 (by decide)
  generalize (wI M 89 0 0) = M1 at h1 ⊢
  refine a_iload_n dX11_alike_5 rfl rfl ?_
  refine a_callS (As := [.int x]) (st := []) (bc := 0) (bs := 0) (mc := 0) (ms := 0) false dX11_alike_6 mw_X11_isSlot rfl (Or.inl ⟨rfl, ml_X11_271⟩) sm_X11_isSlot rfl (Nat.le_of_ble_eq_true rfl) (z2080_X11_isSlot (fr := fr) x y hb_x h1) (fun v M2 hq => ?_)
  obtain ⟨rfl, h2⟩ := hq
  show AW X _ 0 0 9 _ [.int 0] _ _
  refine a_if_eq 19 dX11_alike_9 (by decide) (fun _ => ?_) (fun c => absurd (by decide) c)
  refine a_bipush (v := (-2)) dX11_alike_19 (by decide) ?_
  exact a_iret dX11_alike_21 rfl ⟨by first | rfl | decide +kernel | simp [*], trivial⟩
set_option maxHeartbeats 4000000 in
set_option maxRecDepth 100000 in
theorem q_alike_0b {X : Nat × (Nat → Int32)} {fr : Nat} {M : Mem} (y : Int32) (hb_y : y < 0 ∨ 4 ≤ y) (h0 : Cm fs42 M) : AM yX11_alike cX11_alike 5 (some .int) true (fr + 12) 0 0 X [.ref 89, .int 0, .int y] M (fun v M1 => v = some (.int (-2)) ∧ True) := by
  refine AM.of false (by decide +kernel) (by intro h; cases h) (Nat.le_of_ble_eq_true rfl) ?_
  show AW X (RX11, cX11_alike, 5, (some .int), false, true, fr + 12) 0 0 0 [(0, .ref 89), (1, .int 0), (2, .int y)] [] M _
  refine a_aload_n dX11_alike_0 rfl rfl ?_
  refine a_iconst (v := 0) dX11_alike_1 (by decide) ?_
  refine a_putI dX11_alike_2 (Or.inl ⟨fl_11_1, Or.inl rfl⟩) rfl (cm_l h0 (by decide)) (cm_s h0 (by decide) rfl) rfl rfl ?_
  have h1 : Cm (up2 fs42 89 0 0) (wI M 89 0 0) := cm_I h0 (by decide)
  generalize (wI M 89 0 0) = M1 at h1 ⊢
  refine a_iload_n dX11_alike_5 rfl rfl ?_
  refine a_callS (As := [.int 0]) (st := []) (bc := 0) (bs := 0) (mc := 0) (ms := 0) false dX11_alike_6 mw_X11_isSlot rfl (Or.inl ⟨rfl, ml_X11_271⟩) sm_X11_isSlot rfl (Nat.le_of_ble_eq_true rfl) (z2081_X11_isSlot (fr := fr) y hb_y h1) (fun v M2 hq => ?_)
  obtain ⟨rfl, h2⟩ := hq
  show AW X _ 0 0 9 _ [.int 1] _ _
  refine a_if_eq 19 dX11_alike_9 (by decide) (fun c => absurd c (by decide)) (fun _ => ?_)
  refine a_iload_n dX11_alike_12 rfl rfl ?_
  refine a_callS (As := [.int y]) (st := []) (bc := 0) (bs := 0) (mc := 0) (ms := 0) false dX11_alike_13 mw_X11_isSlot rfl (Or.inl ⟨rfl, ml_X11_271⟩) sm_X11_isSlot rfl (Nat.le_of_ble_eq_true rfl) (z2082_X11_isSlot (fr := fr) y hb_y h2) (fun v M3 hq => ?_)
  obtain ⟨rfl, h3⟩ := hq
  show AW X _ 0 0 16 _ [.int 0] _ _
  refine a_if_ne 22 dX11_alike_16 (by decide) (fun c => absurd (by decide) c) (fun _ => ?_)
  refine a_bipush (v := (-2)) dX11_alike_19 (by decide) ?_
  exact a_iret dX11_alike_21 rfl ⟨by first | rfl | decide +kernel | simp [*], trivial⟩
