set_option maxHeartbeats 4000000 in
set_option maxRecDepth 100000 in
theorem z1028_X10_against {X : Nat × (Nat → Int32)} {fr : Nat} {M : Mem}  (h0 : Cw 126 Lj134 fs42 gs31 M) : AM yX10_against cX10_against 1 (some .int) true (fr + 7) 0 0 X [.ref 0] M (fun v M1 => v = some (.int 0) ∧ Cw 126 Lj134 (up2 (up2 (up2 (up2 (up2 (up2 (up2 (up2 fs42 2 8 1) 8 0 1) 74 6 0) 75 0 0) 76 0 0) 77 0 (-1)) 78 0 (-1)) 74 6 1) (up2 gs31 79 0 (-6148914691236517206)) M1) := by
  refine AM.of false (by decide +kernel) (by intro h; cases h) (Nat.le_of_ble_eq_true rfl) ?_
  show AW X (RX10, cX10_against, 1, (some .int), false, true, fr + 7) 0 0 0 [(0, .ref 0)] [] M _
  refine a_aload_n dX10_against_0 rfl rfl ?_
  refine a_get (v := .ref 74) dX10_against_1 fl_10_86 (cw_l h0 (by decide)) (cw_s h0 (by decide) rfl) (cw_g h0 rfl (by decide +kernel)) ?_
  refine a_aload_n dX10_against_4 rfl rfl ?_
  refine a_get (v := .ref 10) dX10_against_5 fl_10_23 (cw_l h0 (by decide)) (cw_s h0 (by decide) rfl) (cw_g h0 rfl (by decide +kernel)) ?_
  refine a_aload_n dX10_against_8 rfl rfl ?_
  refine a_get (v := .int 0) dX10_against_9 fl_10_105 (cw_l h0 (by decide)) (cw_s h0 (by decide) rfl) (cw_gi h0 rfl (by decide) (by first | decide +kernel | rfl)) ?_
  refine a_callV (As := [.ref 10, .int 0]) (st := []) (a := 74) (ci := 5) (bc := 0) (bs := 0) (mc := 0) (ms := 0) false dX10_against_12 mw_X5_collect rfl (Or.inl ⟨rfl, ml_X10_323⟩) im_X5_collect se_X5_collect (by decide) (cw_l h0 (by decide)) (cw_s h0 (by decide) rfl) rfl (Nat.le_of_ble_eq_true rfl) (z1029_X5_collect (fr := fr)  h0) (fun v M1 hq => ?_)
  obtain ⟨rfl, h1⟩ := hq
  refine a_aload_n dX10_against_15 rfl rfl ?_
  refine a_get (v := .ref 74) dX10_against_16 fl_10_86 (cw_l h1 (by decide)) (cw_s h1 (by decide) rfl) (cw_g h1 rfl (by decide +kernel)) ?_
  refine a_aload_n dX10_against_19 rfl rfl ?_
  refine a_get (v := .ref 10) dX10_against_20 fl_10_23 (cw_l h1 (by decide)) (cw_s h1 (by decide) rfl) (cw_g h1 rfl (by decide +kernel)) ?_
  refine a_aload_n dX10_against_23 rfl rfl ?_
  refine a_get (v := .int 0) dX10_against_24 fl_10_105 (cw_l h1 (by decide)) (cw_s h1 (by decide) rfl) (cw_gi h1 rfl (by decide) (by first | decide +kernel | rfl)) ?_
  refine a_callV (As := [.ref 10, .int 0]) (st := []) (a := 74) (ci := 5) (bc := 0) (bs := 0) (mc := 0) (ms := 0) false dX10_against_27 mw_X5_leastAgainst rfl (Or.inl ⟨rfl, ml_X10_334⟩) im_X5_leastAgainst se_X5_leastAgainst (by decide) (cw_l h1 (by decide)) (cw_s h1 (by decide) rfl) rfl (Nat.le_of_ble_eq_true rfl) (z1043_X5_leastAgainst (fr := fr)  h1) (fun v M2 hq => ?_)
  obtain ⟨rfl, h2⟩ := hq
  show AW X _ 0 0 30 _ [.int 0] _ _
  exact a_iret dX10_against_30 rfl ⟨rfl, h2⟩
set_option maxHeartbeats 4000000 in
set_option maxRecDepth 100000 in
theorem p_classical {X : Nat × (Nat → Int32)} {fr : Nat} {M : Mem}  (h0 : Cw 126 Lj134 fs42 gs31 M) : AM yX10_classical cX10_classical 1 (some .int) true (fr + 8) 0 0 X [.ref 0] M (fun v M1 => v = some (.int 0) ∧ Fm M1) := by
  refine AM.of false (by decide +kernel) (by intro h; cases h) (Nat.le_of_ble_eq_true rfl) ?_
  show AW X (RX10, cX10_classical, 1, (some .int), false, true, fr + 8) 0 0 0 [(0, .ref 0)] [] M _
  refine a_aload_n dX10_classical_0 rfl rfl ?_
  refine a_callV (As := []) (st := []) (a := 0) (ci := 10) (bc := 0) (bs := 0) (mc := 0) (ms := 0) false dX10_classical_1 mw_X10_against rfl (Or.inl ⟨rfl, ml_X10_331⟩) im_X10_against se_X10_against (by decide) (cw_l h0 (by decide)) (cw_s h0 (by decide) rfl) rfl (Nat.le_of_ble_eq_true rfl) (z1028_X10_against (fr := fr)  h0) (fun v M1 hq => ?_)
  obtain ⟨rfl, h1⟩ := hq
  show AW X _ 0 0 4 _ [.int 0] _ _
  refine a_iconst (v := (-1)) dX10_classical_4 (by decide) ?_
  refine a_icmp_ne 12 dX10_classical_5 (by decide) (fun _ => ?_) (fun c => absurd c (by decide))
  refine a_iconst (v := 0) dX10_classical_12 (by decide) ?_
  exact a_iret dX10_classical_13 rfl ⟨by first | rfl | decide +kernel | simp [*], fm_of h1 (fun a k ha => by solve | rfl | (repeat (first | rw [up2_a _ _ _ _ (by omega)] | rw [fZ_a (by omega)])))⟩
set_option maxHeartbeats 4000000 in
set_option maxRecDepth 100000 in
theorem z1051_X2_wordsInAll {X : Nat × (Nat → Int32)} {fr : Nat} {M : Mem}  (h0 : Cw 126 Lj134 fs42 gs31 M) : AM yX2_wordsInAll cX2_wordsInAll 3 (some .int) true (fr + 6) 0 0 X [.ref 10] M (fun v M1 => v = some (.int 0) ∧ Cw 126 Lj134 fs42 gs31 M1) := by
  refine AM.of false (by decide +kernel) (by intro h; cases h) (Nat.le_of_ble_eq_true rfl) ?_
  show AW X (RX2, cX2_wordsInAll, 3, (some .int), false, true, fr + 6) 0 0 0 [(0, .ref 10)] [] M _
  refine a_iconst (v := 0) dX2_wordsInAll_0 (by decide) ?_
  refine a_istore_n dX2_wordsInAll_1 rfl (Nat.le_of_ble_eq_true rfl) (lv2 := [(1, .int 0), (0, .ref 10)]) rfl ?_
  refine a_iconst (v := 0) dX2_wordsInAll_2 (by decide) ?_
  refine a_istore_n dX2_wordsInAll_3 rfl (Nat.le_of_ble_eq_true rfl) (lv2 := [(2, .int 0), (1, .int 0), (0, .ref 10)]) rfl ?_
  refine a_iload_n dX2_wordsInAll_4 rfl rfl ?_
  refine a_aload_n dX2_wordsInAll_5 rfl rfl ?_
  refine a_get (v := .int 0) dX2_wordsInAll_6 fl_2_21 (cw_l h0 (by decide)) (cw_s h0 (by decide) rfl) (cw_gi h0 rfl (by decide) (by first | decide +kernel | rfl)) ?_
  refine a_icmp_ge 33 dX2_wordsInAll_9 (by decide) (fun _ => ?_) (fun c => absurd (by decide) c)
  refine a_iload_n dX2_wordsInAll_33 rfl rfl ?_
  exact a_iret dX2_wordsInAll_34 rfl ⟨rfl, h0⟩
set_option maxHeartbeats 4000000 in
set_option maxRecDepth 100000 in
theorem z1054_X5_kindAt {X : Nat × (Nat → Int32)} {fr : Nat} {M : Mem}  (h0 : Cw 126 Lj134 (up2 (up2 (up2 (up2 (up2 (up2 (up2 (up2 (up2 fs42 2 8 1) 8 0 1) 74 6 0) 75 0 0) 76 0 0) 77 0 (-1)) 78 0 (-1)) 74 6 1) 80 8 1) (up2 gs31 80 10 0) M) : AM yX5_kindAt cX5_kindAt 2 (some .int) true (fr + 4) 0 0 X [.ref 74, .int 0] M (fun v M1 => v = some (.int 0) ∧ Cw 126 Lj134 (up2 (up2 (up2 (up2 (up2 (up2 (up2 (up2 (up2 fs42 2 8 1) 8 0 1) 74 6 0) 75 0 0) 76 0 0) 77 0 (-1)) 78 0 (-1)) 74 6 1) 80 8 1) (up2 gs31 80 10 0) M1) := by
  refine AM.of false (by decide +kernel) (by intro h; cases h) (Nat.le_of_ble_eq_true rfl) ?_
  show AW X (RX5, cX5_kindAt, 2, (some .int), false, true, fr + 4) 0 0 0 [(0, .ref 74), (1, .int 0)] [] M _
  refine a_iload_n dX5_kindAt_0 rfl rfl ?_
  refine a_if_lt 28 dX5_kindAt_1 (by decide) (fun c => absurd c (by decide)) (fun _ => ?_)
  refine a_iload_n dX5_kindAt_4 rfl rfl ?_
  refine a_aload_n dX5_kindAt_5 rfl rfl ?_
  refine a_get (v := .int 1) dX5_kindAt_6 fl_5_51 (cw_l h0 (by decide)) (cw_s h0 (by decide) rfl) (cw_gi h0 rfl (by decide) (by first | decide +kernel | rfl)) ?_
  refine a_icmp_ge 28 dX5_kindAt_9 (by decide) (fun c => absurd c (by decide)) (fun _ => ?_)
  refine a_iload_n dX5_kindAt_12 rfl rfl ?_
  refine a_sipush (v := 420) dX5_kindAt_13 (by decide) ?_
  refine a_icmp_ge 28 dX5_kindAt_16 (by decide) (fun c => absurd c (by decide)) (fun _ => ?_)
  refine a_aload_n dX5_kindAt_19 rfl rfl ?_
  refine a_get (v := .ref 76) dX5_kindAt_20 fl_5_17 (cw_l h0 (by decide)) (cw_s h0 (by decide) rfl) (cw_g h0 rfl (by decide +kernel)) ?_
  refine a_iload_n dX5_kindAt_23 rfl rfl ?_
  refine a_iaload dX5_kindAt_24 (cw_l h0 (by decide)) (cw_s h0 (by decide) rfl) (by unfold vp_in; decide +kernel) ?_
  rw [show M.2.2.1 76 (Int32.toNatClampNeg 0) = 0 from (cw_i h0 (by decide)).trans (by first | decide +kernel | rfl)]
  refine a_goto 29 dX5_kindAt_25 (by decide) ?_
  exact a_iret dX5_kindAt_29 rfl ⟨rfl, h0⟩
set_option maxHeartbeats 4000000 in
set_option maxRecDepth 100000 in
theorem z1053_X0_takeParts {X : Nat × (Nat → Int32)} {fr : Nat} {M : Mem}  (h0 : Cw 126 Lj134 (up2 (up2 (up2 (up2 (up2 (up2 (up2 (up2 fs42 2 8 1) 8 0 1) 74 6 0) 75 0 0) 76 0 0) 77 0 (-1)) 78 0 (-1)) 74 6 1) gs31 M) : AM yX0_takeParts cX0_takeParts 2 none true (fr + 5) 0 0 X [.ref 80] M (fun v M1 => v = none ∧ Cw 126 Lj134 (up2 (up2 (up2 (up2 (up2 (up2 (up2 (up2 (up2 (up2 fs42 2 8 1) 8 0 1) 74 6 0) 75 0 0) 76 0 0) 77 0 (-1)) 78 0 (-1)) 74 6 1) 80 8 1) 81 0 0) (up2 (up2 (up2 gs31 80 10 0) 82 0 0) 83 0 0) M1) := by
  refine AM.of false (by decide +kernel) (by intro h; cases h) (Nat.le_of_ble_eq_true rfl) ?_
  show AW X (RX0, cX0_takeParts, 2, none, false, true, fr + 5) 0 0 0 [(0, .ref 80)] [] M _
  refine a_aload_n dX0_takeParts_0 rfl rfl ?_
  refine a_aload_n dX0_takeParts_1 rfl rfl ?_
  refine a_get (v := .ref 74) dX0_takeParts_2 fl_0_32 (cw_l h0 (by decide)) (cw_s h0 (by decide) rfl) (cw_g h0 rfl (by decide +kernel)) ?_
  refine a_getN (v := .int 1) dX0_takeParts_5 fn_0_76 (cw_l h0 (by decide)) (cw_s h0 (by decide) rfl) (cw_gi h0 rfl (by decide) (by first | decide +kernel | rfl)) ?_
  refine a_bipush (v := 40) dX0_takeParts_8 (by decide) ?_
  refine a_mmin dX0_takeParts_10 mm_X0_77 mmin_s ini_Math mmin_c (Nat.le_add_left 1 (fr + 4)) (Nat.le_of_ble_eq_true rfl) ?_
  refine a_st (st2 := [.int 1, .ref 80]) (by decide +kernel) ?_
  refine a_putI dX0_takeParts_13 (Or.inl ⟨fl_0_83, Or.inl rfl⟩) rfl (cw_l h0 (by decide)) (cw_s h0 (by decide) rfl) rfl rfl ?_
  have h1 : Cw 126 Lj134 (up2 (up2 (up2 (up2 (up2 (up2 (up2 (up2 (up2 fs42 2 8 1) 8 0 1) 74 6 0) 75 0 0) 76 0 0) 77 0 (-1)) 78 0 (-1)) 74 6 1) 80 8 1) gs31 (wI M 80 8 1) := cw_I h0 (by decide)
  generalize (wI M 80 8 1) = M1 at h1 ⊢
  refine a_aload_n dX0_takeParts_16 rfl rfl ?_
  refine a_lconst (v := 0) dX0_takeParts_17 (by decide) ?_
  refine a_putJ dX0_takeParts_18 (Or.inl ⟨fl_0_84, Or.inl rfl⟩) rfl (cw_l h1 (by decide)) (cw_s h1 (by decide) rfl) ?_
  have h2 : Cw 126 Lj134 (up2 (up2 (up2 (up2 (up2 (up2 (up2 (up2 (up2 fs42 2 8 1) 8 0 1) 74 6 0) 75 0 0) 76 0 0) 77 0 (-1)) 78 0 (-1)) 74 6 1) 80 8 1) (up2 gs31 80 10 0) (wJ M1 80 10 0) := cw_J h1 (by decide)
  generalize (wJ M1 80 10 0) = M2 at h2 ⊢
  refine a_iconst (v := 0) dX0_takeParts_21 (by decide) ?_
  refine a_istore_n dX0_takeParts_22 rfl (Nat.le_of_ble_eq_true rfl) (lv2 := [(1, .int 0), (0, .ref 80)]) rfl ?_
  refine a_iload_n dX0_takeParts_23 rfl rfl ?_
  refine a_aload_n dX0_takeParts_24 rfl rfl ?_
  refine a_get (v := .int 1) dX0_takeParts_25 fl_0_83 (cw_l h2 (by decide)) (cw_s h2 (by decide) rfl) (cw_gi h2 rfl (by decide) (by first | decide +kernel | rfl)) ?_
  refine a_icmp_ge 134 dX0_takeParts_28 (by decide) (fun c => absurd c (by decide)) (fun _ => ?_)
  refine a_aload_n dX0_takeParts_31 rfl rfl ?_
  refine a_get (v := .ref 81) dX0_takeParts_32 fl_0_9 (cw_l h2 (by decide)) (cw_s h2 (by decide) rfl) (cw_g h2 rfl (by decide +kernel)) ?_
  refine a_iload_n dX0_takeParts_35 rfl rfl ?_
  refine a_aload_n dX0_takeParts_36 rfl rfl ?_
  refine a_get (v := .ref 74) dX0_takeParts_37 fl_0_32 (cw_l h2 (by decide)) (cw_s h2 (by decide) rfl) (cw_g h2 rfl (by decide +kernel)) ?_
  refine a_iload_n dX0_takeParts_40 rfl rfl ?_
  refine a_callV (As := [.int 0]) (st := [.int 0, .ref 81]) (a := 74) (ci := 5) (bc := 0) (bs := 0) (mc := 0) (ms := 0) false dX0_takeParts_41 mw_X5_kindAt rfl (Or.inl ⟨rfl, ml_X0_87⟩) im_X5_kindAt se_X5_kindAt (by decide) (cw_l h2 (by decide)) (cw_s h2 (by decide) rfl) rfl (Nat.le_of_ble_eq_true rfl) (z1054_X5_kindAt (fr := fr)  h2) (fun v M3 hq => ?_)
  obtain ⟨rfl, h3⟩ := hq
  show AW X _ 0 0 44 _ [.int 0, .int 0, .ref 81] _ _
  refine a_iastore dX0_takeParts_44 (cw_l h3 (by decide)) (cw_s h3 (by decide) rfl) (by unfold vp_in; decide +kernel) ?_
  rw [show Int32.toNatClampNeg 0 = 0 from by decide +kernel]
  have h4 : Cw 126 Lj134 (up2 (up2 (up2 (up2 (up2 (up2 (up2 (up2 (up2 (up2 fs42 2 8 1) 8 0 1) 74 6 0) 75 0 0) 76 0 0) 77 0 (-1)) 78 0 (-1)) 74 6 1) 80 8 1) 81 0 0) (up2 gs31 80 10 0) (wI M3 81 0 0) := cw_I h3 (by decide)
  generalize (wI M3 81 0 0) = M4 at h4 ⊢
  refine a_aload_n dX0_takeParts_45 rfl rfl ?_
  refine a_get (v := .ref 82) dX0_takeParts_46 fl_0_15 (cw_l h4 (by decide)) (cw_s h4 (by decide) rfl) (cw_g h4 rfl (by decide +kernel)) ?_
  refine a_iload_n dX0_takeParts_49 rfl rfl ?_
  refine a_aload_n dX0_takeParts_50 rfl rfl ?_
  refine a_get (v := .ref 81) dX0_takeParts_51 fl_0_9 (cw_l h4 (by decide)) (cw_s h4 (by decide) rfl) (cw_g h4 rfl (by decide +kernel)) ?_
  refine a_iload_n dX0_takeParts_54 rfl rfl ?_
  refine a_iaload dX0_takeParts_55 (cw_l h4 (by decide)) (cw_s h4 (by decide) rfl) (by unfold vp_in; decide +kernel) ?_
  rw [show M4.2.2.1 81 (Int32.toNatClampNeg 0) = 0 from (cw_i h4 (by decide)).trans (by first | decide +kernel | rfl)]
  refine a_bipush (v := 9) dX0_takeParts_56 (by decide) ?_
  refine a_icmp_ge 65 dX0_takeParts_58 (by decide) (fun c => absurd c (by decide)) (fun _ => ?_)
  refine a_lconst (v := 0) dX0_takeParts_61 (by decide) ?_
  refine a_goto 76 dX0_takeParts_62 (by decide) ?_
  refine a_lastore dX0_takeParts_76 (cw_l h4 (by decide)) (cw_s h4 (by decide) rfl) (by unfold vp_in; decide +kernel) ?_
  rw [show Int32.toNatClampNeg 0 = 0 from by decide +kernel]
  have h5 : Cw 126 Lj134 (up2 (up2 (up2 (up2 (up2 (up2 (up2 (up2 (up2 (up2 fs42 2 8 1) 8 0 1) 74 6 0) 75 0 0) 76 0 0) 77 0 (-1)) 78 0 (-1)) 74 6 1) 80 8 1) 81 0 0) (up2 (up2 gs31 80 10 0) 82 0 0) (wJ M4 82 0 0) := cw_J h4 (by decide)
  generalize (wJ M4 82 0 0) = M5 at h5 ⊢
  refine a_aload_n dX0_takeParts_77 rfl rfl ?_
  refine a_get (v := .ref 83) dX0_takeParts_78 fl_0_19 (cw_l h5 (by decide)) (cw_s h5 (by decide) rfl) (cw_g h5 rfl (by decide +kernel)) ?_
  refine a_iload_n dX0_takeParts_81 rfl rfl ?_
  refine a_aload_n dX0_takeParts_82 rfl rfl ?_
  refine a_get (v := .ref 81) dX0_takeParts_83 fl_0_9 (cw_l h5 (by decide)) (cw_s h5 (by decide) rfl) (cw_g h5 rfl (by decide +kernel)) ?_
  refine a_iload_n dX0_takeParts_86 rfl rfl ?_
  refine a_iaload dX0_takeParts_87 (cw_l h5 (by decide)) (cw_s h5 (by decide) rfl) (by unfold vp_in; decide +kernel) ?_
  rw [show M5.2.2.1 81 (Int32.toNatClampNeg 0) = 0 from (cw_i h5 (by decide)).trans (by first | decide +kernel | rfl)]
  refine a_bipush (v := 9) dX0_takeParts_88 (by decide) ?_
  refine a_icmp_ge 97 dX0_takeParts_90 (by decide) (fun c => absurd c (by decide)) (fun _ => ?_)
  refine a_lconst (v := 0) dX0_takeParts_93 (by decide) ?_
  refine a_goto 108 dX0_takeParts_94 (by decide) ?_
  refine a_lastore dX0_takeParts_108 (cw_l h5 (by decide)) (cw_s h5 (by decide) rfl) (by unfold vp_in; decide +kernel) ?_
  rw [show Int32.toNatClampNeg 0 = 0 from by decide +kernel]
  have h6 : Cw 126 Lj134 (up2 (up2 (up2 (up2 (up2 (up2 (up2 (up2 (up2 (up2 fs42 2 8 1) 8 0 1) 74 6 0) 75 0 0) 76 0 0) 77 0 (-1)) 78 0 (-1)) 74 6 1) 80 8 1) 81 0 0) (up2 (up2 (up2 gs31 80 10 0) 82 0 0) 83 0 0) (wJ M5 83 0 0) := cw_J h5 (by decide)
  generalize (wJ M5 83 0 0) = M6 at h6 ⊢
  refine a_aload_n dX0_takeParts_109 rfl rfl ?_
  refine a_get (v := .ref 81) dX0_takeParts_110 fl_0_9 (cw_l h6 (by decide)) (cw_s h6 (by decide) rfl) (cw_g h6 rfl (by decide +kernel)) ?_
  refine a_iload_n dX0_takeParts_113 rfl rfl ?_
  refine a_iaload dX0_takeParts_114 (cw_l h6 (by decide)) (cw_s h6 (by decide) rfl) (by unfold vp_in; decide +kernel) ?_
  rw [show M6.2.2.1 81 (Int32.toNatClampNeg 0) = 0 from (cw_i h6 (by decide)).trans (by first | decide +kernel | rfl)]
  refine a_bipush (v := 8) dX0_takeParts_115 (by decide) ?_
  refine a_icmp_ne 128 dX0_takeParts_117 (by decide) (fun _ => ?_) (fun c => absurd c (by decide))
  refine a_iinc (v := 1) dX0_takeParts_128 rfl (by decide) (Nat.le_of_ble_eq_true rfl) (lv2 := [(1, .int 1), (0, .ref 80)]) rfl ?_
  refine a_goto 23 dX0_takeParts_131 (by decide) ?_
  refine a_iload_n dX0_takeParts_23 rfl rfl ?_
  refine a_aload_n dX0_takeParts_24 rfl rfl ?_
  refine a_get (v := .int 1) dX0_takeParts_25 fl_0_83 (cw_l h6 (by decide)) (cw_s h6 (by decide) rfl) (cw_gi h6 rfl (by decide) (by first | decide +kernel | rfl)) ?_
  refine a_icmp_ge 134 dX0_takeParts_28 (by decide) (fun _ => ?_) (fun c => absurd (by decide) c)
  exact a_vret dX0_takeParts_134 rfl ⟨rfl, h6⟩
set_option maxHeartbeats 4000000 in
set_option maxRecDepth 100000 in
theorem z1056_X10_at {X : Nat × (Nat → Int32)} {fr : Nat} {M : Mem}  (h0 : Cw 126 Lj134 (fZ (up2 (up2 (up2 (up2 (up2 (up2 (up2 (up2 (up2 (up2 (up2 fs42 2 8 1) 8 0 1) 74 6 0) 75 0 0) 76 0 0) 77 0 (-1)) 78 0 (-1)) 74 6 1) 80 8 1) 81 0 0) 80 7 0) 86 2048) (up2 (up2 (up2 gs31 80 10 0) 82 0 0) 83 0 0) M) : AM yX10_at cX10_at 2 (some .int) true (fr + 4) 0 0 X [.ref 75, .int 0] M (fun v M1 => v = some (.int 0) ∧ Cw 126 Lj134 (fZ (up2 (up2 (up2 (up2 (up2 (up2 (up2 (up2 (up2 (up2 (up2 fs42 2 8 1) 8 0 1) 74 6 0) 75 0 0) 76 0 0) 77 0 (-1)) 78 0 (-1)) 74 6 1) 80 8 1) 81 0 0) 80 7 0) 86 2048) (up2 (up2 (up2 gs31 80 10 0) 82 0 0) 83 0 0) M1) := by
  refine AM.of false (by decide +kernel) (by intro h; cases h) (Nat.le_of_ble_eq_true rfl) ?_
  show AW X (RX10, cX10_at, 2, (some .int), false, true, fr + 4) 0 0 0 [(0, .ref 75), (1, .int 0)] [] M _
  refine a_iload_n dX10_at_0 rfl rfl ?_
  refine a_if_lt 16 dX10_at_1 (by decide) (fun c => absurd c (by decide)) (fun _ => ?_)
  refine a_iload_n dX10_at_4 rfl rfl ?_
  refine a_aload_n dX10_at_5 rfl rfl ?_
  refine a_alen (v := 5200) (by decide) dX10_at_6 (cw_l h0 (by decide)) (cw_s h0 (by decide) rfl) (by decide) ?_
  refine a_icmp_ge 16 dX10_at_7 (by decide) (fun c => absurd c (by decide)) (fun _ => ?_)
  refine a_aload_n dX10_at_10 rfl rfl ?_
  refine a_iload_n dX10_at_11 rfl rfl ?_
  refine a_iaload dX10_at_12 (cw_l h0 (by decide)) (cw_s h0 (by decide) rfl) (by unfold vp_in; decide +kernel) ?_
  rw [show M.2.2.1 75 (Int32.toNatClampNeg 0) = 0 from (cw_i h0 (by decide)).trans (by first | decide +kernel | rfl)]
  refine a_goto 17 dX10_at_13 (by decide) ?_
  exact a_iret dX10_at_17 rfl ⟨rfl, h0⟩
set_option maxHeartbeats 4000000 in
set_option maxRecDepth 100000 in
theorem z1055_X5_spotOf {X : Nat × (Nat → Int32)} {fr : Nat} {M : Mem}  (h0 : Cw 126 Lj134 (fZ (up2 (up2 (up2 (up2 (up2 (up2 (up2 (up2 (up2 (up2 (up2 fs42 2 8 1) 8 0 1) 74 6 0) 75 0 0) 76 0 0) 77 0 (-1)) 78 0 (-1)) 74 6 1) 80 8 1) 81 0 0) 80 7 0) 86 2048) (up2 (up2 (up2 gs31 80 10 0) 82 0 0) 83 0 0) M) : AM yX5_spotOf cX5_spotOf 2 (some .int) true (fr + 5) 0 0 X [.ref 74, .int 0] M (fun v M1 => v = some (.int 0) ∧ Cw 126 Lj134 (fZ (up2 (up2 (up2 (up2 (up2 (up2 (up2 (up2 (up2 (up2 (up2 fs42 2 8 1) 8 0 1) 74 6 0) 75 0 0) 76 0 0) 77 0 (-1)) 78 0 (-1)) 74 6 1) 80 8 1) 81 0 0) 80 7 0) 86 2048) (up2 (up2 (up2 gs31 80 10 0) 82 0 0) 83 0 0) M1) := by
  refine AM.of false (by decide +kernel) (by intro h; cases h) (Nat.le_of_ble_eq_true rfl) ?_
  show AW X (RX5, cX5_spotOf, 2, (some .int), false, true, fr + 5) 0 0 0 [(0, .ref 74), (1, .int 0)] [] M _
  refine a_aload_n dX5_spotOf_0 rfl rfl ?_
  refine a_get (v := .ref 75) dX5_spotOf_1 fl_5_11 (cw_l h0 (by decide)) (cw_s h0 (by decide) rfl) (cw_g h0 rfl (by decide +kernel)) ?_
  refine a_iload_n dX5_spotOf_4 rfl rfl ?_
  refine a_callS (As := [.ref 75, .int 0]) (st := []) (bc := 0) (bs := 0) (mc := 0) (ms := 0) true dX5_spotOf_5 mw_X10_at rfl (Or.inr ⟨rfl, mn_X5_71⟩) sm_X10_at rfl (Nat.le_of_ble_eq_true rfl) (z1056_X10_at (fr := fr)  h0) (fun v M1 hq => ?_)
  obtain ⟨rfl, h1⟩ := hq
  show AW X _ 0 0 8 _ [.int 0] _ _
  exact a_iret dX5_spotOf_8 rfl ⟨rfl, h1⟩
set_option maxHeartbeats 4000000 in
set_option maxRecDepth 100000 in
theorem z1057_X0_bit {X : Nat × (Nat → Int32)} {fr : Nat} {M : Mem}  (h0 : Cw 126 Lj134 (fZ (up2 (up2 (up2 (up2 (up2 (up2 (up2 (up2 (up2 (up2 (up2 fs42 2 8 1) 8 0 1) 74 6 0) 75 0 0) 76 0 0) 77 0 (-1)) 78 0 (-1)) 74 6 1) 80 8 1) 81 0 0) 80 7 0) 86 2048) (up2 (up2 (up2 gs31 80 10 0) 82 0 0) 83 0 0) M) : AM yX0_bit cX0_bit 1 (some .long) true (fr + 5) 0 0 X [.int 0] M (fun v M1 => v = some (.long 1) ∧ Cw 126 Lj134 (fZ (up2 (up2 (up2 (up2 (up2 (up2 (up2 (up2 (up2 (up2 (up2 fs42 2 8 1) 8 0 1) 74 6 0) 75 0 0) 76 0 0) 77 0 (-1)) 78 0 (-1)) 74 6 1) 80 8 1) 81 0 0) 80 7 0) 86 2048) (up2 (up2 (up2 gs31 80 10 0) 82 0 0) 83 0 0) M1) := by
  refine AM.of false (by decide +kernel) (by intro h; cases h) (Nat.le_of_ble_eq_true rfl) ?_
  show AW X (RX0, cX0_bit, 1, (some .long), false, true, fr + 5) 0 0 0 [(0, .int 0)] [] M _
  refine a_iload_n dX0_bit_0 rfl rfl ?_
  refine a_if_lt 16 dX0_bit_1 (by decide) (fun c => absurd c (by decide)) (fun _ => ?_)
  refine a_iload_n dX0_bit_4 rfl rfl ?_
  refine a_bipush (v := 40) dX0_bit_5 (by decide) ?_
  refine a_icmp_ge 16 dX0_bit_7 (by decide) (fun c => absurd c (by decide)) (fun _ => ?_)
  refine a_lconst (v := 1) dX0_bit_10 (by decide) ?_
  refine a_iload_n dX0_bit_11 rfl rfl ?_
  refine a_lshl dX0_bit_12 ?_
  refine a_st (st2 := [.long 1]) (by decide +kernel) ?_
  refine a_goto 17 dX0_bit_13 (by decide) ?_
  exact a_lret dX0_bit_17 rfl ⟨rfl, h0⟩
set_option maxHeartbeats 4000000 in
set_option maxRecDepth 100000 in
theorem z1058_X0_findAsked {X : Nat × (Nat → Int32)} {fr : Nat} {M : Mem}  (h0 : Cw 126 Lj134 (fZ (up2 (up2 (up2 (up2 (up2 (up2 (up2 (up2 (up2 (up2 (up2 fs42 2 8 1) 8 0 1) 74 6 0) 75 0 0) 76 0 0) 77 0 (-1)) 78 0 (-1)) 74 6 1) 80 8 1) 81 0 0) 80 7 0) 86 2048) (up2 (up2 (up2 (up2 gs31 80 10 0) 82 0 0) 83 0 0) 80 9 1) M) : AM yX0_findAsked cX0_findAsked 9 (some .long) true (fr + 5) 0 0 X [.ref 80, .long 0] M (fun v M1 => v = some (.long 1) ∧ Cw 126 Lj134 (fZ (up2 (up2 (up2 (up2 (up2 (up2 (up2 (up2 (up2 (up2 (up2 fs42 2 8 1) 8 0 1) 74 6 0) 75 0 0) 76 0 0) 77 0 (-1)) 78 0 (-1)) 74 6 1) 80 8 1) 81 0 0) 80 7 0) 86 2048) (up2 (up2 (up2 (up2 gs31 80 10 0) 82 0 0) 83 0 0) 80 9 1) M1) := by
  refine AM.of false (by decide +kernel) (by intro h; cases h) (Nat.le_of_ble_eq_true rfl) ?_
  show AW X (RX0, cX0_findAsked, 9, (some .long), false, true, fr + 5) 0 0 0 [(0, .ref 80), (1, .long 0)] [] M _
  refine a_aload_n dX0_findAsked_0 rfl rfl ?_
  refine a_get (v := .long 1) dX0_findAsked_1 fl_0_61 (cw_l h0 (by decide)) (cw_s h0 (by decide) rfl) (cw_gj h0 rfl (by decide) (by decide +kernel)) ?_
  refine a_lstore_n dX0_findAsked_4 rfl (Nat.le_of_ble_eq_true rfl) (lv2 := [(3, .long 1), (0, .ref 80), (1, .long 0)]) rfl ?_
  refine a_lload_n dX0_findAsked_5 rfl rfl ?_
  refine a_lstore dX0_findAsked_6 (Nat.le_of_ble_eq_true rfl) (lv2 := [(5, .long 0), (3, .long 1), (0, .ref 80), (1, .long 0)]) rfl ?_
  refine a_aload_n dX0_findAsked_8 rfl rfl ?_
  refine a_get (v := .int 1) dX0_findAsked_9 fl_0_83 (cw_l h0 (by decide)) (cw_s h0 (by decide) rfl) (cw_gi h0 rfl (by decide) (by first | decide +kernel | rfl)) ?_
  refine a_iconst (v := 1) dX0_findAsked_12 (by decide) ?_
  refine a_isub dX0_findAsked_13 ?_
  refine a_st (st2 := [.int 0]) (by decide +kernel) ?_
  refine a_istore dX0_findAsked_14 (Nat.le_of_ble_eq_true rfl) (lv2 := [(7, .int 0), (5, .long 0), (3, .long 1), (0, .ref 80), (1, .long 0)]) rfl ?_
  refine a_iload dX0_findAsked_16 rfl ?_
  refine a_if_lt 177 dX0_findAsked_18 (by decide) (fun c => absurd c (by decide)) (fun _ => ?_)
  refine a_aload_n dX0_findAsked_21 rfl rfl ?_
  refine a_get (v := .ref 81) dX0_findAsked_22 fl_0_9 (cw_l h0 (by decide)) (cw_s h0 (by decide) rfl) (cw_g h0 rfl (by decide +kernel)) ?_
  refine a_iload dX0_findAsked_25 rfl ?_
  refine a_iaload dX0_findAsked_27 (cw_l h0 (by decide)) (cw_s h0 (by decide) rfl) (by unfold vp_in; decide +kernel) ?_
  rw [show M.2.2.1 81 (Int32.toNatClampNeg 0) = 0 from (cw_i h0 (by decide)).trans (by first | decide +kernel | rfl)]
  refine a_bipush (v := 9) dX0_findAsked_28 (by decide) ?_
  refine a_icmp_ne 37 dX0_findAsked_30 (by decide) (fun _ => ?_) (fun c => absurd c (by decide))
  refine a_iconst (v := 0) dX0_findAsked_37 (by decide) ?_
  refine a_istore dX0_findAsked_38 (Nat.le_of_ble_eq_true rfl) (lv2 := [(8, .int 0), (7, .int 0), (5, .long 0), (3, .long 1), (0, .ref 80), (1, .long 0)]) rfl ?_
  refine a_lload_n dX0_findAsked_40 rfl rfl ?_
  refine a_iload dX0_findAsked_41 rfl ?_
  refine a_lushr dX0_findAsked_43 ?_
  refine a_st (st2 := [.long 1]) (by decide +kernel) ?_
  refine a_lconst (v := 1) dX0_findAsked_44 (by decide) ?_
  refine a_land dX0_findAsked_45 ?_
  refine a_st (st2 := [.long 1]) (by decide +kernel) ?_
  refine a_lconst (v := 0) dX0_findAsked_46 (by decide) ?_
  refine a_lcmp dX0_findAsked_47 ?_
  refine a_st (st2 := [.int 1]) (by decide +kernel) ?_
  refine a_if_eq 105 dX0_findAsked_48 (by decide) (fun c => absurd c (by decide)) (fun _ => ?_)
  refine a_lload_n dX0_findAsked_51 rfl rfl ?_
  refine a_iload dX0_findAsked_52 rfl ?_
  refine a_if_eq 67 dX0_findAsked_54 (by decide) (fun _ => ?_) (fun c => absurd (by decide) c)
  refine a_aload_n dX0_findAsked_67 rfl rfl ?_
  refine a_get (v := .ref 82) dX0_findAsked_68 fl_0_15 (cw_l h0 (by decide)) (cw_s h0 (by decide) rfl) (cw_g h0 rfl (by decide +kernel)) ?_
  refine a_iload dX0_findAsked_71 rfl ?_
  refine a_laload dX0_findAsked_73 (cw_l h0 (by decide)) (cw_s h0 (by decide) rfl) (by unfold vp_in; decide +kernel) ?_
  rw [show M.2.2.2.1 82 (Int32.toNatClampNeg 0) = 0 from (cw_j h0 (by decide)).trans (by decide +kernel)]
  refine a_aload_n dX0_findAsked_74 rfl rfl ?_
  refine a_get (v := .ref 83) dX0_findAsked_75 fl_0_19 (cw_l h0 (by decide)) (cw_s h0 (by decide) rfl) (cw_g h0 rfl (by decide +kernel)) ?_
  refine a_iload dX0_findAsked_78 rfl ?_
  refine a_laload dX0_findAsked_80 (cw_l h0 (by decide)) (cw_s h0 (by decide) rfl) (by unfold vp_in; decide +kernel) ?_
  rw [show M.2.2.2.1 83 (Int32.toNatClampNeg 0) = 0 from (cw_j h0 (by decide)).trans (by decide +kernel)]
  refine a_lor dX0_findAsked_81 ?_
  refine a_st (st2 := [.long 0, .long 1]) (by decide +kernel) ?_
  refine a_lor dX0_findAsked_82 ?_
  refine a_st (st2 := [.long 1]) (by decide +kernel) ?_
  refine a_lstore_n dX0_findAsked_83 rfl (Nat.le_of_ble_eq_true rfl) (lv2 := [(3, .long 1), (8, .int 0), (7, .int 0), (5, .long 0), (0, .ref 80), (1, .long 0)]) rfl ?_
  refine a_lload dX0_findAsked_84 rfl ?_
  refine a_iload dX0_findAsked_86 rfl ?_
  refine a_if_eq 101 dX0_findAsked_88 (by decide) (fun _ => ?_) (fun c => absurd (by decide) c)
  refine a_lconst (v := 0) dX0_findAsked_101 (by decide) ?_
  refine a_lor dX0_findAsked_102 ?_
  refine a_st (st2 := [.long 0]) (by decide +kernel) ?_
  refine a_lstore dX0_findAsked_103 (Nat.le_of_ble_eq_true rfl) (lv2 := [(5, .long 0), (3, .long 1), (8, .int 0), (7, .int 0), (0, .ref 80), (1, .long 0)]) rfl ?_
  refine a_lload dX0_findAsked_105 rfl ?_
  refine a_iload dX0_findAsked_107 rfl ?_
  refine a_lushr dX0_findAsked_109 ?_
  refine a_st (st2 := [.long 0]) (by decide +kernel) ?_
  refine a_lconst (v := 1) dX0_findAsked_110 (by decide) ?_
  refine a_land dX0_findAsked_111 ?_
  refine a_st (st2 := [.long 0]) (by decide +kernel) ?_
  refine a_lconst (v := 0) dX0_findAsked_112 (by decide) ?_
  refine a_lcmp dX0_findAsked_113 ?_
  refine a_st (st2 := [.int 0]) (by decide +kernel) ?_
  refine a_if_eq 171 dX0_findAsked_114 (by decide) (fun _ => ?_) (fun c => absurd (by decide) c)
  refine a_iinc (v := (-1)) dX0_findAsked_171 rfl (by decide) (Nat.le_of_ble_eq_true rfl) (lv2 := [(7, .int (-1)), (5, .long 0), (3, .long 1), (8, .int 0), (0, .ref 80), (1, .long 0)]) rfl ?_
  refine a_goto 16 dX0_findAsked_174 (by decide) ?_
  refine a_iload dX0_findAsked_16 rfl ?_
  refine a_if_lt 177 dX0_findAsked_18 (by decide) (fun _ => ?_) (fun c => absurd (by decide) c)
  refine a_lload_n dX0_findAsked_177 rfl rfl ?_
  exact a_lret dX0_findAsked_178 rfl ⟨rfl, h0⟩
set_option maxHeartbeats 4000000 in
set_option maxRecDepth 100000 in
theorem z1060_X0_saturate {X : Nat × (Nat → Int32)} {fr : Nat} {M : Mem}  (h0 : Cw 126 Lj134 (fZ (up2 (up2 (up2 (up2 (up2 (up2 (up2 (up2 (up2 (up2 (up2 fs42 2 8 1) 8 0 1) 74 6 0) 75 0 0) 76 0 0) 77 0 (-1)) 78 0 (-1)) 74 6 1) 80 8 1) 81 0 0) 80 7 0) 86 2048) (up2 (up2 (up2 (up2 (up2 gs31 80 10 0) 82 0 0) 83 0 0) 80 9 1) 80 11 1) M) : AM yX0_saturate cX0_saturate 9 (some .long) true (fr + 4) 0 0 X [.ref 80, .long 0] M (fun v M1 => v = some (.long 0) ∧ Cw 126 Lj134 (fZ (up2 (up2 (up2 (up2 (up2 (up2 (up2 (up2 (up2 (up2 (up2 fs42 2 8 1) 8 0 1) 74 6 0) 75 0 0) 76 0 0) 77 0 (-1)) 78 0 (-1)) 74 6 1) 80 8 1) 81 0 0) 80 7 0) 86 2048) (up2 (up2 (up2 (up2 (up2 gs31 80 10 0) 82 0 0) 83 0 0) 80 9 1) 80 11 1) M1) := by
  refine AM.of false (by decide +kernel) (by intro h; cases h) (Nat.le_of_ble_eq_true rfl) ?_
  show AW X (RX0, cX0_saturate, 9, (some .long), false, true, fr + 4) 0 0 0 [(0, .ref 80), (1, .long 0)] [] M _
  refine a_lload_n dX0_saturate_0 rfl rfl ?_
  refine a_lstore_n dX0_saturate_1 rfl (Nat.le_of_ble_eq_true rfl) (lv2 := [(3, .long 0), (0, .ref 80), (1, .long 0)]) rfl ?_
  refine a_iconst (v := 0) dX0_saturate_2 (by decide) ?_
  refine a_istore dX0_saturate_3 (Nat.le_of_ble_eq_true rfl) (lv2 := [(5, .int 0), (3, .long 0), (0, .ref 80), (1, .long 0)]) rfl ?_
  refine a_iload dX0_saturate_5 rfl ?_
  refine a_bipush (v := 40) dX0_saturate_7 (by decide) ?_
  refine a_icmp_gt 70 dX0_saturate_9 (by decide) (fun c => absurd c (by decide)) (fun _ => ?_)
  refine a_lload_n dX0_saturate_12 rfl rfl ?_
  refine a_lstore dX0_saturate_13 (Nat.le_of_ble_eq_true rfl) (lv2 := [(6, .long 0), (5, .int 0), (3, .long 0), (0, .ref 80), (1, .long 0)]) rfl ?_
  refine a_iconst (v := 0) dX0_saturate_15 (by decide) ?_
  refine a_istore dX0_saturate_16 (Nat.le_of_ble_eq_true rfl) (lv2 := [(8, .int 0), (6, .long 0), (5, .int 0), (3, .long 0), (0, .ref 80), (1, .long 0)]) rfl ?_
  refine a_iload dX0_saturate_18 rfl ?_
  refine a_aload_n dX0_saturate_20 rfl rfl ?_
  refine a_get (v := .int 1) dX0_saturate_21 fl_0_83 (cw_l h0 (by decide)) (cw_s h0 (by decide) rfl) (cw_gi h0 rfl (by decide) (by first | decide +kernel | rfl)) ?_
  refine a_icmp_ge 55 dX0_saturate_24 (by decide) (fun c => absurd c (by decide)) (fun _ => ?_)
  refine a_aload_n dX0_saturate_27 rfl rfl ?_
  refine a_get (v := .ref 81) dX0_saturate_28 fl_0_9 (cw_l h0 (by decide)) (cw_s h0 (by decide) rfl) (cw_g h0 rfl (by decide +kernel)) ?_
  refine a_iload dX0_saturate_31 rfl ?_
  refine a_iaload dX0_saturate_33 (cw_l h0 (by decide)) (cw_s h0 (by decide) rfl) (by unfold vp_in; decide +kernel) ?_
  rw [show M.2.2.1 81 (Int32.toNatClampNeg 0) = 0 from (cw_i h0 (by decide)).trans (by first | decide +kernel | rfl)]
  refine a_bipush (v := 9) dX0_saturate_34 (by decide) ?_
  refine a_icmp_lt 49 dX0_saturate_36 (by decide) (fun _ => ?_) (fun c => absurd (by decide) c)
  refine a_iinc (v := 1) dX0_saturate_49 rfl (by decide) (Nat.le_of_ble_eq_true rfl) (lv2 := [(8, .int 1), (6, .long 0), (5, .int 0), (3, .long 0), (0, .ref 80), (1, .long 0)]) rfl ?_
  refine a_goto 18 dX0_saturate_52 (by decide) ?_
  refine a_iload dX0_saturate_18 rfl ?_
  refine a_aload_n dX0_saturate_20 rfl rfl ?_
  refine a_get (v := .int 1) dX0_saturate_21 fl_0_83 (cw_l h0 (by decide)) (cw_s h0 (by decide) rfl) (cw_gi h0 rfl (by decide) (by first | decide +kernel | rfl)) ?_
  refine a_icmp_ge 55 dX0_saturate_24 (by decide) (fun _ => ?_) (fun c => absurd (by decide) c)
  refine a_lload_n dX0_saturate_55 rfl rfl ?_
  refine a_lload dX0_saturate_56 rfl ?_
  refine a_lcmp dX0_saturate_58 ?_
  refine a_st (st2 := [.int 0]) (by decide +kernel) ?_
  refine a_if_ne 64 dX0_saturate_59 (by decide) (fun c => absurd (by decide) c) (fun _ => ?_)
  refine a_lload_n dX0_saturate_62 rfl rfl ?_
  exact a_lret dX0_saturate_63 rfl ⟨rfl, h0⟩
set_option maxHeartbeats 4000000 in
set_option maxRecDepth 100000 in
theorem z1061_X0_memoSpot {X : Nat × (Nat → Int32)} {fr : Nat} {M : Mem}  (h0 : Cw 126 Lj134 (fZ (up2 (up2 (up2 (up2 (up2 (up2 (up2 (up2 (up2 (up2 (up2 fs42 2 8 1) 8 0 1) 74 6 0) 75 0 0) 76 0 0) 77 0 (-1)) 78 0 (-1)) 74 6 1) 80 8 1) 81 0 0) 80 7 0) 86 2048) (up2 (up2 (up2 (up2 (up2 gs31 80 10 0) 82 0 0) 83 0 0) 80 9 1) 80 11 1) M) : AM yX0_memoSpot cX0_memoSpot 7 (some .int) true (fr + 4) 0 0 X [.ref 80, .long 0] M (fun v M1 => v = some (.int 0) ∧ Cw 126 Lj134 (fZ (up2 (up2 (up2 (up2 (up2 (up2 (up2 (up2 (up2 (up2 (up2 fs42 2 8 1) 8 0 1) 74 6 0) 75 0 0) 76 0 0) 77 0 (-1)) 78 0 (-1)) 74 6 1) 80 8 1) 81 0 0) 80 7 0) 86 2048) (up2 (up2 (up2 (up2 (up2 gs31 80 10 0) 82 0 0) 83 0 0) 80 9 1) 80 11 1) M1) := by
  refine AM.of false (by decide +kernel) (by intro h; cases h) (Nat.le_of_ble_eq_true rfl) ?_
  show AW X (RX0, cX0_memoSpot, 7, (some .int), false, true, fr + 4) 0 0 0 [(0, .ref 80), (1, .long 0)] [] M _
  refine a_lload_n dX0_memoSpot_0 rfl rfl ?_
  refine a_ldc2 dX0_memoSpot_1 co_X0_121 ?_
  refine a_lmul dX0_memoSpot_4 ?_
  refine a_st (st2 := [.long 0]) (by decide +kernel) ?_
  refine a_lstore_n dX0_memoSpot_5 rfl (Nat.le_of_ble_eq_true rfl) (lv2 := [(3, .long 0), (0, .ref 80), (1, .long 0)]) rfl ?_
  refine a_lload_n dX0_memoSpot_6 rfl rfl ?_
  refine a_bipush (v := 40) dX0_memoSpot_7 (by decide) ?_
  refine a_lushr dX0_memoSpot_9 ?_
  refine a_st (st2 := [.long 0]) (by decide +kernel) ?_
  refine a_l2i dX0_memoSpot_10 ?_
  refine a_st (st2 := [.int 0]) (by decide +kernel) ?_
  refine a_sipush (v := 2047) dX0_memoSpot_11 (by decide) ?_
  refine a_iand dX0_memoSpot_14 ?_
  refine a_st (st2 := [.int 0]) (by decide +kernel) ?_
  refine a_istore dX0_memoSpot_15 (Nat.le_of_ble_eq_true rfl) (lv2 := [(5, .int 0), (3, .long 0), (0, .ref 80), (1, .long 0)]) rfl ?_
  refine a_iconst (v := 0) dX0_memoSpot_17 (by decide) ?_
  refine a_istore dX0_memoSpot_18 (Nat.le_of_ble_eq_true rfl) (lv2 := [(6, .int 0), (5, .int 0), (3, .long 0), (0, .ref 80), (1, .long 0)]) rfl ?_
  refine a_iload dX0_memoSpot_20 rfl ?_
  refine a_sipush (v := 2048) dX0_memoSpot_22 (by decide) ?_
  refine a_icmp_ge 69 dX0_memoSpot_25 (by decide) (fun c => absurd c (by decide)) (fun _ => ?_)
  refine a_aload_n dX0_memoSpot_28 rfl rfl ?_
  refine a_get (v := .ref 86) dX0_memoSpot_29 fl_0_28 (cw_l h0 (by decide)) (cw_s h0 (by decide) rfl) (cw_g h0 rfl (by decide +kernel)) ?_
  refine a_iload dX0_memoSpot_32 rfl ?_
  refine a_baload dX0_memoSpot_34 (by decide) (cw_l h0 (by decide)) (cw_s h0 (by decide) rfl) (by unfold vp_in; decide +kernel) ?_
  rw [show M.2.2.1 86 (Int32.toNatClampNeg 0) = 0 from (cw_i h0 (by decide)).trans (by first | decide +kernel | rfl)]
  refine a_if_eq 50 dX0_memoSpot_35 (by decide) (fun _ => ?_) (fun c => absurd (by decide) c)
  refine a_iload dX0_memoSpot_50 rfl ?_
  exact a_iret dX0_memoSpot_52 rfl ⟨rfl, h0⟩
set_option maxHeartbeats 4000000 in
set_option maxRecDepth 100000 in
theorem z1062_X0_openOr {X : Nat × (Nat → Int32)} {fr : Nat} {M : Mem}  (h0 : Cw 126 Lj134 (fZ (up2 (up2 (up2 (up2 (up2 (up2 (up2 (up2 (up2 (up2 (up2 fs42 2 8 1) 8 0 1) 74 6 0) 75 0 0) 76 0 0) 77 0 (-1)) 78 0 (-1)) 74 6 1) 80 8 1) 81 0 0) 80 7 0) 86 2048) (up2 (up2 (up2 (up2 (up2 gs31 80 10 0) 82 0 0) 83 0 0) 80 9 1) 80 11 1) M) : AM yX0_openOr cX0_openOr 4 (some .int) true (fr + 4) 0 0 X [.ref 80, .long 0] M (fun v M1 => v = some (.int (-1)) ∧ Cw 126 Lj134 (fZ (up2 (up2 (up2 (up2 (up2 (up2 (up2 (up2 (up2 (up2 (up2 fs42 2 8 1) 8 0 1) 74 6 0) 75 0 0) 76 0 0) 77 0 (-1)) 78 0 (-1)) 74 6 1) 80 8 1) 81 0 0) 80 7 0) 86 2048) (up2 (up2 (up2 (up2 (up2 gs31 80 10 0) 82 0 0) 83 0 0) 80 9 1) 80 11 1) M1) := by
  refine AM.of false (by decide +kernel) (by intro h; cases h) (Nat.le_of_ble_eq_true rfl) ?_
  show AW X (RX0, cX0_openOr, 4, (some .int), false, true, fr + 4) 0 0 0 [(0, .ref 80), (1, .long 0)] [] M _
  refine a_iconst (v := 0) dX0_openOr_0 (by decide) ?_
  refine a_istore_n dX0_openOr_1 rfl (Nat.le_of_ble_eq_true rfl) (lv2 := [(3, .int 0), (0, .ref 80), (1, .long 0)]) rfl ?_
  refine a_iload_n dX0_openOr_2 rfl rfl ?_
  refine a_aload_n dX0_openOr_3 rfl rfl ?_
  refine a_get (v := .int 1) dX0_openOr_4 fl_0_83 (cw_l h0 (by decide)) (cw_s h0 (by decide) rfl) (cw_gi h0 rfl (by decide) (by first | decide +kernel | rfl)) ?_
  refine a_icmp_ge 59 dX0_openOr_7 (by decide) (fun c => absurd c (by decide)) (fun _ => ?_)
  refine a_aload_n dX0_openOr_10 rfl rfl ?_
  refine a_get (v := .ref 81) dX0_openOr_11 fl_0_9 (cw_l h0 (by decide)) (cw_s h0 (by decide) rfl) (cw_g h0 rfl (by decide +kernel)) ?_
  refine a_iload_n dX0_openOr_14 rfl rfl ?_
  refine a_iaload dX0_openOr_15 (cw_l h0 (by decide)) (cw_s h0 (by decide) rfl) (by unfold vp_in; decide +kernel) ?_
  rw [show M.2.2.1 81 (Int32.toNatClampNeg 0) = 0 from (cw_i h0 (by decide)).trans (by first | decide +kernel | rfl)]
  refine a_bipush (v := 11) dX0_openOr_16 (by decide) ?_
  refine a_icmp_ne 53 dX0_openOr_18 (by decide) (fun _ => ?_) (fun c => absurd c (by decide))
  refine a_iinc (v := 1) dX0_openOr_53 rfl (by decide) (Nat.le_of_ble_eq_true rfl) (lv2 := [(3, .int 1), (0, .ref 80), (1, .long 0)]) rfl ?_
  refine a_goto 2 dX0_openOr_56 (by decide) ?_
  refine a_iload_n dX0_openOr_2 rfl rfl ?_
  refine a_aload_n dX0_openOr_3 rfl rfl ?_
  refine a_get (v := .int 1) dX0_openOr_4 fl_0_83 (cw_l h0 (by decide)) (cw_s h0 (by decide) rfl) (cw_gi h0 rfl (by decide) (by first | decide +kernel | rfl)) ?_
  refine a_icmp_ge 59 dX0_openOr_7 (by decide) (fun _ => ?_) (fun c => absurd (by decide) c)
  refine a_iconst (v := (-1)) dX0_openOr_59 (by decide) ?_
  exact a_iret dX0_openOr_60 rfl ⟨rfl, h0⟩
set_option maxHeartbeats 4000000 in
set_option maxRecDepth 100000 in
theorem z1064_X0_mattering {X : Nat × (Nat → Int32)} {fr : Nat} {M : Mem}  (h0 : Cw 126 Lj134 (fZ (up2 (up2 (up2 (up2 (up2 (up2 (up2 (up2 (up2 (up2 (up2 fs42 2 8 1) 8 0 1) 74 6 0) 75 0 0) 76 0 0) 77 0 (-1)) 78 0 (-1)) 74 6 1) 80 8 1) 81 0 0) 80 7 0) 86 2048) (up2 (up2 (up2 (up2 (up2 gs31 80 10 0) 82 0 0) 83 0 0) 80 9 1) 80 11 1) M) : AM yX0_mattering cX0_mattering 6 (some .long) true (fr + 3) 0 0 X [.ref 80, .long 0] M (fun v M1 => v = some (.long 1) ∧ Cw 126 Lj134 (fZ (up2 (up2 (up2 (up2 (up2 (up2 (up2 (up2 (up2 (up2 (up2 fs42 2 8 1) 8 0 1) 74 6 0) 75 0 0) 76 0 0) 77 0 (-1)) 78 0 (-1)) 74 6 1) 80 8 1) 81 0 0) 80 7 0) 86 2048) (up2 (up2 (up2 (up2 (up2 gs31 80 10 0) 82 0 0) 83 0 0) 80 9 1) 80 11 1) M1) := by
  refine AM.of false (by decide +kernel) (by intro h; cases h) (Nat.le_of_ble_eq_true rfl) ?_
  show AW X (RX0, cX0_mattering, 6, (some .long), false, true, fr + 3) 0 0 0 [(0, .ref 80), (1, .long 0)] [] M _
  refine a_aload_n dX0_mattering_0 rfl rfl ?_
  refine a_get (v := .long 1) dX0_mattering_1 fl_0_61 (cw_l h0 (by decide)) (cw_s h0 (by decide) rfl) (cw_gj h0 rfl (by decide) (by decide +kernel)) ?_
  refine a_lstore_n dX0_mattering_4 rfl (Nat.le_of_ble_eq_true rfl) (lv2 := [(3, .long 1), (0, .ref 80), (1, .long 0)]) rfl ?_
  refine a_iconst (v := 0) dX0_mattering_5 (by decide) ?_
  refine a_istore dX0_mattering_6 (Nat.le_of_ble_eq_true rfl) (lv2 := [(5, .int 0), (3, .long 1), (0, .ref 80), (1, .long 0)]) rfl ?_
  refine a_iload dX0_mattering_8 rfl ?_
  refine a_aload_n dX0_mattering_10 rfl rfl ?_
  refine a_get (v := .int 1) dX0_mattering_11 fl_0_83 (cw_l h0 (by decide)) (cw_s h0 (by decide) rfl) (cw_gi h0 rfl (by decide) (by first | decide +kernel | rfl)) ?_
  refine a_icmp_ge 108 dX0_mattering_14 (by decide) (fun c => absurd c (by decide)) (fun _ => ?_)
  refine a_aload_n dX0_mattering_17 rfl rfl ?_
  refine a_get (v := .ref 81) dX0_mattering_18 fl_0_9 (cw_l h0 (by decide)) (cw_s h0 (by decide) rfl) (cw_g h0 rfl (by decide +kernel)) ?_
  refine a_iload dX0_mattering_21 rfl ?_
  refine a_iaload dX0_mattering_23 (cw_l h0 (by decide)) (cw_s h0 (by decide) rfl) (by unfold vp_in; decide +kernel) ?_
  rw [show M.2.2.1 81 (Int32.toNatClampNeg 0) = 0 from (cw_i h0 (by decide)).trans (by first | decide +kernel | rfl)]
  refine a_bipush (v := 9) dX0_mattering_24 (by decide) ?_
  refine a_icmp_ne 102 dX0_mattering_26 (by decide) (fun _ => ?_) (fun c => absurd c (by decide))
  refine a_iinc (v := 1) dX0_mattering_102 rfl (by decide) (Nat.le_of_ble_eq_true rfl) (lv2 := [(5, .int 1), (3, .long 1), (0, .ref 80), (1, .long 0)]) rfl ?_
  refine a_goto 8 dX0_mattering_105 (by decide) ?_
  refine a_iload dX0_mattering_8 rfl ?_
  refine a_aload_n dX0_mattering_10 rfl rfl ?_
  refine a_get (v := .int 1) dX0_mattering_11 fl_0_83 (cw_l h0 (by decide)) (cw_s h0 (by decide) rfl) (cw_gi h0 rfl (by decide) (by first | decide +kernel | rfl)) ?_
  refine a_icmp_ge 108 dX0_mattering_14 (by decide) (fun _ => ?_) (fun c => absurd (by decide) c)
  refine a_aload_n dX0_mattering_108 rfl rfl ?_
  refine a_get (v := .int 1) dX0_mattering_109 fl_0_83 (cw_l h0 (by decide)) (cw_s h0 (by decide) rfl) (cw_gi h0 rfl (by decide) (by first | decide +kernel | rfl)) ?_
  refine a_iconst (v := 1) dX0_mattering_112 (by decide) ?_
  refine a_isub dX0_mattering_113 ?_
  refine a_st (st2 := [.int 0]) (by decide +kernel) ?_
  refine a_istore dX0_mattering_114 (Nat.le_of_ble_eq_true rfl) (lv2 := [(5, .int 0), (3, .long 1), (0, .ref 80), (1, .long 0)]) rfl ?_
  refine a_iload dX0_mattering_116 rfl ?_
  refine a_if_lt 168 dX0_mattering_118 (by decide) (fun c => absurd c (by decide)) (fun _ => ?_)
  refine a_aload_n dX0_mattering_121 rfl rfl ?_
  refine a_get (v := .ref 81) dX0_mattering_122 fl_0_9 (cw_l h0 (by decide)) (cw_s h0 (by decide) rfl) (cw_g h0 rfl (by decide +kernel)) ?_
  refine a_iload dX0_mattering_125 rfl ?_
  refine a_iaload dX0_mattering_127 (cw_l h0 (by decide)) (cw_s h0 (by decide) rfl) (by unfold vp_in; decide +kernel) ?_
  rw [show M.2.2.1 81 (Int32.toNatClampNeg 0) = 0 from (cw_i h0 (by decide)).trans (by first | decide +kernel | rfl)]
  refine a_bipush (v := 9) dX0_mattering_128 (by decide) ?_
  refine a_icmp_le 162 dX0_mattering_130 (by decide) (fun _ => ?_) (fun c => absurd (by decide) c)
  refine a_iinc (v := (-1)) dX0_mattering_162 rfl (by decide) (Nat.le_of_ble_eq_true rfl) (lv2 := [(5, .int (-1)), (3, .long 1), (0, .ref 80), (1, .long 0)]) rfl ?_
  refine a_goto 116 dX0_mattering_165 (by decide) ?_
  refine a_iload dX0_mattering_116 rfl ?_
  refine a_if_lt 168 dX0_mattering_118 (by decide) (fun _ => ?_) (fun c => absurd (by decide) c)
  refine a_lload_n dX0_mattering_168 rfl rfl ?_
  exact a_lret dX0_mattering_169 rfl ⟨rfl, h0⟩
set_option maxHeartbeats 4000000 in
set_option maxRecDepth 100000 in
theorem z1063_X0_tryImps {X : Nat × (Nat → Int32)} {fr : Nat} {M : Mem}  (h0 : Cw 126 Lj134 (fZ (up2 (up2 (up2 (up2 (up2 (up2 (up2 (up2 (up2 (up2 (up2 fs42 2 8 1) 8 0 1) 74 6 0) 75 0 0) 76 0 0) 77 0 (-1)) 78 0 (-1)) 74 6 1) 80 8 1) 81 0 0) 80 7 0) 86 2048) (up2 (up2 (up2 (up2 (up2 gs31 80 10 0) 82 0 0) 83 0 0) 80 9 1) 80 11 1) M) : AM yX0_tryImps cX0_tryImps 12 (some .long) true (fr + 4) 0 0 X [.ref 80, .long 0, .int 0] M (fun v M1 => v = some (.long 0) ∧ Cw 126 Lj134 (fZ (up2 (up2 (up2 (up2 (up2 (up2 (up2 (up2 (up2 (up2 (up2 fs42 2 8 1) 8 0 1) 74 6 0) 75 0 0) 76 0 0) 77 0 (-1)) 78 0 (-1)) 74 6 1) 80 8 1) 81 0 0) 80 7 0) 86 2048) (up2 (up2 (up2 (up2 (up2 gs31 80 10 0) 82 0 0) 83 0 0) 80 9 1) 80 11 1) M1) := by
  refine AM.of false (by decide +kernel) (by intro h; cases h) (Nat.le_of_ble_eq_true rfl) ?_
  show AW X (RX0, cX0_tryImps, 12, (some .long), false, true, fr + 4) 0 0 0 [(0, .ref 80), (1, .long 0), (3, .int 0)] [] M _
  refine a_lload_n dX0_tryImps_0 rfl rfl ?_
  refine a_lstore dX0_tryImps_1 (Nat.le_of_ble_eq_true rfl) (lv2 := [(4, .long 0), (0, .ref 80), (1, .long 0), (3, .int 0)]) rfl ?_
  refine a_aload_n dX0_tryImps_3 rfl rfl ?_
  refine a_lload dX0_tryImps_4 rfl ?_
  refine a_callV (As := [.long 0]) (st := []) (a := 80) (ci := 0) (bc := 0) (bs := 0) (mc := 0) (ms := 0) false dX0_tryImps_6 mw_X0_mattering rfl (Or.inl ⟨rfl, ml_X0_115⟩) im_X0_mattering se_X0_mattering (by decide) (cw_l h0 (by decide)) (cw_s h0 (by decide) rfl) rfl (Nat.le_of_ble_eq_true rfl) (z1064_X0_mattering (fr := fr)  h0) (fun v M1 hq => ?_)
  obtain ⟨rfl, h1⟩ := hq
  show AW X _ 0 0 9 _ [.long 1] _ _
  refine a_lstore dX0_tryImps_9 (Nat.le_of_ble_eq_true rfl) (lv2 := [(6, .long 1), (4, .long 0), (0, .ref 80), (1, .long 0), (3, .int 0)]) rfl ?_
  refine a_iconst (v := 0) dX0_tryImps_11 (by decide) ?_
  refine a_istore dX0_tryImps_12 (Nat.le_of_ble_eq_true rfl) (lv2 := [(8, .int 0), (6, .long 1), (4, .long 0), (0, .ref 80), (1, .long 0), (3, .int 0)]) rfl ?_
  refine a_iconst (v := 0) dX0_tryImps_14 (by decide) ?_
  refine a_istore dX0_tryImps_15 (Nat.le_of_ble_eq_true rfl) (lv2 := [(9, .int 0), (8, .int 0), (6, .long 1), (4, .long 0), (0, .ref 80), (1, .long 0), (3, .int 0)]) rfl ?_
  refine a_iload dX0_tryImps_17 rfl ?_
  refine a_aload_n dX0_tryImps_19 rfl rfl ?_
  refine a_get (v := .int 1) dX0_tryImps_20 fl_0_83 (cw_l h1 (by decide)) (cw_s h1 (by decide) rfl) (cw_gi h1 rfl (by decide) (by first | decide +kernel | rfl)) ?_
  refine a_aload_n dX0_tryImps_23 rfl rfl ?_
  refine a_get (v := .int 1) dX0_tryImps_24 fl_0_83 (cw_l h1 (by decide)) (cw_s h1 (by decide) rfl) (cw_gi h1 rfl (by decide) (by first | decide +kernel | rfl)) ?_
  refine a_iconst (v := 1) dX0_tryImps_27 (by decide) ?_
  refine a_iadd dX0_tryImps_28 ?_
  refine a_st (st2 := [.int 2, .int 1, .int 0]) (by decide +kernel) ?_
  refine a_imul dX0_tryImps_29 ?_
  refine a_st (st2 := [.int 2, .int 0]) (by decide +kernel) ?_
  refine a_icmp_ge 202 dX0_tryImps_30 (by decide) (fun c => absurd c (by decide)) (fun _ => ?_)
  refine a_iload dX0_tryImps_33 rfl ?_
  refine a_aload_n dX0_tryImps_35 rfl rfl ?_
  refine a_get (v := .int 1) dX0_tryImps_36 fl_0_83 (cw_l h1 (by decide)) (cw_s h1 (by decide) rfl) (cw_gi h1 rfl (by decide) (by first | decide +kernel | rfl)) ?_
  refine a_icmp_ge 202 dX0_tryImps_39 (by decide) (fun c => absurd c (by decide)) (fun _ => ?_)
  refine a_iload dX0_tryImps_42 rfl ?_
  refine a_aload_n dX0_tryImps_44 rfl rfl ?_
  refine a_get (v := .int 1) dX0_tryImps_45 fl_0_83 (cw_l h1 (by decide)) (cw_s h1 (by decide) rfl) (cw_gi h1 rfl (by decide) (by first | decide +kernel | rfl)) ?_
  refine a_irem dX0_tryImps_48 (by decide) ?_
  refine a_st (st2 := [.int 0]) (by decide +kernel) ?_
  refine a_istore dX0_tryImps_49 (Nat.le_of_ble_eq_true rfl) (lv2 := [(10, .int 0), (9, .int 0), (8, .int 0), (6, .long 1), (4, .long 0), (0, .ref 80), (1, .long 0), (3, .int 0)]) rfl ?_
  refine a_iinc (v := 1) dX0_tryImps_51 rfl (by decide) (Nat.le_of_ble_eq_true rfl) (lv2 := [(8, .int 1), (10, .int 0), (9, .int 0), (6, .long 1), (4, .long 0), (0, .ref 80), (1, .long 0), (3, .int 0)]) rfl ?_
  refine a_aload_n dX0_tryImps_54 rfl rfl ?_
  refine a_get (v := .ref 81) dX0_tryImps_55 fl_0_9 (cw_l h1 (by decide)) (cw_s h1 (by decide) rfl) (cw_g h1 rfl (by decide +kernel)) ?_
  refine a_iload dX0_tryImps_58 rfl ?_
  refine a_iaload dX0_tryImps_60 (cw_l h1 (by decide)) (cw_s h1 (by decide) rfl) (by unfold vp_in; decide +kernel) ?_
  rw [show M1.2.2.1 81 (Int32.toNatClampNeg 0) = 0 from (cw_i h1 (by decide)).trans (by first | decide +kernel | rfl)]
  refine a_bipush (v := 9) dX0_tryImps_61 (by decide) ?_
  refine a_icmp_ne 90 dX0_tryImps_63 (by decide) (fun _ => ?_) (fun c => absurd c (by decide))
  refine a_iconst (v := 0) dX0_tryImps_90 (by decide) ?_
  refine a_istore dX0_tryImps_91 (Nat.le_of_ble_eq_true rfl) (lv2 := [(11, .int 0), (8, .int 1), (10, .int 0), (9, .int 0), (6, .long 1), (4, .long 0), (0, .ref 80), (1, .long 0), (3, .int 0)]) rfl ?_
  refine a_iload dX0_tryImps_93 rfl ?_
  refine a_if_eq 196 dX0_tryImps_95 (by decide) (fun _ => ?_) (fun c => absurd (by decide) c)
  refine a_iinc (v := 1) dX0_tryImps_196 rfl (by decide) (Nat.le_of_ble_eq_true rfl) (lv2 := [(9, .int 1), (11, .int 0), (8, .int 1), (10, .int 0), (6, .long 1), (4, .long 0), (0, .ref 80), (1, .long 0), (3, .int 0)]) rfl ?_
  refine a_goto 17 dX0_tryImps_199 (by decide) ?_
  refine a_iload dX0_tryImps_17 rfl ?_
  refine a_aload_n dX0_tryImps_19 rfl rfl ?_
  refine a_get (v := .int 1) dX0_tryImps_20 fl_0_83 (cw_l h1 (by decide)) (cw_s h1 (by decide) rfl) (cw_gi h1 rfl (by decide) (by first | decide +kernel | rfl)) ?_
  refine a_aload_n dX0_tryImps_23 rfl rfl ?_
  refine a_get (v := .int 1) dX0_tryImps_24 fl_0_83 (cw_l h1 (by decide)) (cw_s h1 (by decide) rfl) (cw_gi h1 rfl (by decide) (by first | decide +kernel | rfl)) ?_
  refine a_iconst (v := 1) dX0_tryImps_27 (by decide) ?_
  refine a_iadd dX0_tryImps_28 ?_
  refine a_st (st2 := [.int 2, .int 1, .int 1]) (by decide +kernel) ?_
  refine a_imul dX0_tryImps_29 ?_
  refine a_st (st2 := [.int 2, .int 1]) (by decide +kernel) ?_
  refine a_icmp_ge 202 dX0_tryImps_30 (by decide) (fun c => absurd c (by decide)) (fun _ => ?_)
  refine a_iload dX0_tryImps_33 rfl ?_
  refine a_aload_n dX0_tryImps_35 rfl rfl ?_
  refine a_get (v := .int 1) dX0_tryImps_36 fl_0_83 (cw_l h1 (by decide)) (cw_s h1 (by decide) rfl) (cw_gi h1 rfl (by decide) (by first | decide +kernel | rfl)) ?_
  refine a_icmp_ge 202 dX0_tryImps_39 (by decide) (fun _ => ?_) (fun c => absurd (by decide) c)
  refine a_lload dX0_tryImps_202 rfl ?_
  exact a_lret dX0_tryImps_204 rfl ⟨rfl, h1⟩
set_option maxHeartbeats 4000000 in
set_option maxRecDepth 100000 in
theorem z1066_X0_memoSpot {X : Nat × (Nat → Int32)} {fr : Nat} {M : Mem}  (h0 : Cw 126 Lj134 (fZ (up2 (up2 (up2 (up2 (up2 (up2 (up2 (up2 (up2 (up2 (up2 fs42 2 8 1) 8 0 1) 74 6 0) 75 0 0) 76 0 0) 77 0 (-1)) 78 0 (-1)) 74 6 1) 80 8 1) 81 0 0) 80 7 0) 86 2048) (up2 (up2 (up2 (up2 (up2 gs31 80 10 0) 82 0 0) 83 0 0) 80 9 1) 80 11 1) M) : AM yX0_memoSpot cX0_memoSpot 7 (some .int) true (fr + 3) 0 0 X [.ref 80, .long 0] M (fun v M1 => v = some (.int 0) ∧ Cw 126 Lj134 (fZ (up2 (up2 (up2 (up2 (up2 (up2 (up2 (up2 (up2 (up2 (up2 fs42 2 8 1) 8 0 1) 74 6 0) 75 0 0) 76 0 0) 77 0 (-1)) 78 0 (-1)) 74 6 1) 80 8 1) 81 0 0) 80 7 0) 86 2048) (up2 (up2 (up2 (up2 (up2 gs31 80 10 0) 82 0 0) 83 0 0) 80 9 1) 80 11 1) M1) := by
  refine AM.of false (by decide +kernel) (by intro h; cases h) (Nat.le_of_ble_eq_true rfl) ?_
  show AW X (RX0, cX0_memoSpot, 7, (some .int), false, true, fr + 3) 0 0 0 [(0, .ref 80), (1, .long 0)] [] M _
  refine a_lload_n dX0_memoSpot_0 rfl rfl ?_
  refine a_ldc2 dX0_memoSpot_1 co_X0_121 ?_
  refine a_lmul dX0_memoSpot_4 ?_
  refine a_st (st2 := [.long 0]) (by decide +kernel) ?_
  refine a_lstore_n dX0_memoSpot_5 rfl (Nat.le_of_ble_eq_true rfl) (lv2 := [(3, .long 0), (0, .ref 80), (1, .long 0)]) rfl ?_
  refine a_lload_n dX0_memoSpot_6 rfl rfl ?_
  refine a_bipush (v := 40) dX0_memoSpot_7 (by decide) ?_
  refine a_lushr dX0_memoSpot_9 ?_
  refine a_st (st2 := [.long 0]) (by decide +kernel) ?_
  refine a_l2i dX0_memoSpot_10 ?_
  refine a_st (st2 := [.int 0]) (by decide +kernel) ?_
  refine a_sipush (v := 2047) dX0_memoSpot_11 (by decide) ?_
  refine a_iand dX0_memoSpot_14 ?_
  refine a_st (st2 := [.int 0]) (by decide +kernel) ?_
  refine a_istore dX0_memoSpot_15 (Nat.le_of_ble_eq_true rfl) (lv2 := [(5, .int 0), (3, .long 0), (0, .ref 80), (1, .long 0)]) rfl ?_
  refine a_iconst (v := 0) dX0_memoSpot_17 (by decide) ?_
  refine a_istore dX0_memoSpot_18 (Nat.le_of_ble_eq_true rfl) (lv2 := [(6, .int 0), (5, .int 0), (3, .long 0), (0, .ref 80), (1, .long 0)]) rfl ?_
  refine a_iload dX0_memoSpot_20 rfl ?_
  refine a_sipush (v := 2048) dX0_memoSpot_22 (by decide) ?_
  refine a_icmp_ge 69 dX0_memoSpot_25 (by decide) (fun c => absurd c (by decide)) (fun _ => ?_)
  refine a_aload_n dX0_memoSpot_28 rfl rfl ?_
  refine a_get (v := .ref 86) dX0_memoSpot_29 fl_0_28 (cw_l h0 (by decide)) (cw_s h0 (by decide) rfl) (cw_g h0 rfl (by decide +kernel)) ?_
  refine a_iload dX0_memoSpot_32 rfl ?_
  refine a_baload dX0_memoSpot_34 (by decide) (cw_l h0 (by decide)) (cw_s h0 (by decide) rfl) (by unfold vp_in; decide +kernel) ?_
  rw [show M.2.2.1 86 (Int32.toNatClampNeg 0) = 0 from (cw_i h0 (by decide)).trans (by first | decide +kernel | rfl)]
  refine a_if_eq 50 dX0_memoSpot_35 (by decide) (fun _ => ?_) (fun c => absurd (by decide) c)
  refine a_iload dX0_memoSpot_50 rfl ?_
  exact a_iret dX0_memoSpot_52 rfl ⟨rfl, h0⟩
set_option maxHeartbeats 4000000 in
set_option maxRecDepth 100000 in
theorem z1065_X0_remember {X : Nat × (Nat → Int32)} {fr : Nat} {M : Mem}  (h0 : Cw 126 Lj134 (fZ (up2 (up2 (up2 (up2 (up2 (up2 (up2 (up2 (up2 (up2 (up2 fs42 2 8 1) 8 0 1) 74 6 0) 75 0 0) 76 0 0) 77 0 (-1)) 78 0 (-1)) 74 6 1) 80 8 1) 81 0 0) 80 7 0) 86 2048) (up2 (up2 (up2 (up2 (up2 gs31 80 10 0) 82 0 0) 83 0 0) 80 9 1) 80 11 1) M) : AM yX0_remember cX0_remember 6 none true (fr + 4) 0 0 X [.ref 80, .long 0, .long 0] M (fun v M1 => v = none ∧ Cw 126 Lj134 (up2 (up2 (fZ (up2 (up2 (up2 (up2 (up2 (up2 (up2 (up2 (up2 (up2 (up2 fs42 2 8 1) 8 0 1) 74 6 0) 75 0 0) 76 0 0) 77 0 (-1)) 78 0 (-1)) 74 6 1) 80 8 1) 81 0 0) 80 7 0) 86 2048) 86 0 (1 &&& 1)) 80 7 1) (up2 (up2 (up2 (up2 (up2 (up2 (up2 gs31 80 10 0) 82 0 0) 83 0 0) 80 9 1) 80 11 1) 84 0 0) 85 0 0) M1) := by
  refine AM.of false (by decide +kernel) (by intro h; cases h) (Nat.le_of_ble_eq_true rfl) ?_
  show AW X (RX0, cX0_remember, 6, none, false, true, fr + 4) 0 0 0 [(0, .ref 80), (1, .long 0), (3, .long 0)] [] M _
  refine a_aload_n dX0_remember_0 rfl rfl ?_
  refine a_lload_n dX0_remember_1 rfl rfl ?_
  refine a_callV (As := [.long 0]) (st := []) (a := 80) (ci := 0) (bc := 0) (bs := 0) (mc := 0) (ms := 0) false dX0_remember_2 mw_X0_memoSpot rfl (Or.inl ⟨rfl, ml_X0_101⟩) im_X0_memoSpot se_X0_memoSpot (by decide) (cw_l h0 (by decide)) (cw_s h0 (by decide) rfl) rfl (Nat.le_of_ble_eq_true rfl) (z1066_X0_memoSpot (fr := fr)  h0) (fun v M1 hq => ?_)
  obtain ⟨rfl, h1⟩ := hq
  show AW X _ 0 0 5 _ [.int 0] _ _
  refine a_istore dX0_remember_5 (Nat.le_of_ble_eq_true rfl) (lv2 := [(5, .int 0), (0, .ref 80), (1, .long 0), (3, .long 0)]) rfl ?_
  refine a_aload_n dX0_remember_7 rfl rfl ?_
  refine a_get (v := .int 0) dX0_remember_8 fl_0_39 (cw_l h1 (by decide)) (cw_s h1 (by decide) rfl) (cw_gi h1 rfl (by decide) (by first | decide +kernel | rfl)) ?_
  refine a_sipush (v := 1536) dX0_remember_11 (by decide) ?_
  refine a_icmp_ge 64 dX0_remember_14 (by decide) (fun c => absurd c (by decide)) (fun _ => ?_)
  refine a_iload dX0_remember_17 rfl ?_
  refine a_if_lt 64 dX0_remember_19 (by decide) (fun c => absurd c (by decide)) (fun _ => ?_)
  refine a_iload dX0_remember_22 rfl ?_
  refine a_sipush (v := 2048) dX0_remember_24 (by decide) ?_
  refine a_icmp_ge 64 dX0_remember_27 (by decide) (fun c => absurd c (by decide)) (fun _ => ?_)
  refine a_aload_n dX0_remember_30 rfl rfl ?_
  refine a_get (v := .ref 84) dX0_remember_31 fl_0_22 (cw_l h1 (by decide)) (cw_s h1 (by decide) rfl) (cw_g h1 rfl (by decide +kernel)) ?_
  refine a_iload dX0_remember_34 rfl ?_
  refine a_lload_n dX0_remember_36 rfl rfl ?_
  refine a_lastore dX0_remember_37 (cw_l h1 (by decide)) (cw_s h1 (by decide) rfl) (by unfold vp_in; decide +kernel) ?_
  rw [show Int32.toNatClampNeg 0 = 0 from by decide +kernel]
  have h2 : Cw 126 Lj134 (fZ (up2 (up2 (up2 (up2 (up2 (up2 (up2 (up2 (up2 (up2 (up2 fs42 2 8 1) 8 0 1) 74 6 0) 75 0 0) 76 0 0) 77 0 (-1)) 78 0 (-1)) 74 6 1) 80 8 1) 81 0 0) 80 7 0) 86 2048) (up2 (up2 (up2 (up2 (up2 (up2 gs31 80 10 0) 82 0 0) 83 0 0) 80 9 1) 80 11 1) 84 0 0) (wJ M1 84 0 0) := cw_J h1 (by decide)
  generalize (wJ M1 84 0 0) = M2 at h2 ⊢
  refine a_aload_n dX0_remember_38 rfl rfl ?_
  refine a_get (v := .ref 85) dX0_remember_39 fl_0_25 (cw_l h2 (by decide)) (cw_s h2 (by decide) rfl) (cw_g h2 rfl (by decide +kernel)) ?_
  refine a_iload dX0_remember_42 rfl ?_
  refine a_lload_n dX0_remember_44 rfl rfl ?_
  refine a_lastore dX0_remember_45 (cw_l h2 (by decide)) (cw_s h2 (by decide) rfl) (by unfold vp_in; decide +kernel) ?_
  rw [show Int32.toNatClampNeg 0 = 0 from by decide +kernel]
  have h3 : Cw 126 Lj134 (fZ (up2 (up2 (up2 (up2 (up2 (up2 (up2 (up2 (up2 (up2 (up2 fs42 2 8 1) 8 0 1) 74 6 0) 75 0 0) 76 0 0) 77 0 (-1)) 78 0 (-1)) 74 6 1) 80 8 1) 81 0 0) 80 7 0) 86 2048) (up2 (up2 (up2 (up2 (up2 (up2 (up2 gs31 80 10 0) 82 0 0) 83 0 0) 80 9 1) 80 11 1) 84 0 0) 85 0 0) (wJ M2 85 0 0) := cw_J h2 (by decide)
  generalize (wJ M2 85 0 0) = M3 at h3 ⊢
  refine a_aload_n dX0_remember_46 rfl rfl ?_
  refine a_get (v := .ref 86) dX0_remember_47 fl_0_28 (cw_l h3 (by decide)) (cw_s h3 (by decide) rfl) (cw_g h3 rfl (by decide +kernel)) ?_
  refine a_iload dX0_remember_50 rfl ?_
  refine a_iconst (v := 1) dX0_remember_52 (by decide) ?_
  refine a_bastore3 dX0_remember_53 (cw_l h3 (by decide)) (cw_s h3 (by decide) rfl) (by unfold vp_in; decide +kernel) ?_
  rw [show Int32.toNatClampNeg 0 = 0 from by decide +kernel]
  have h4 : Cw 126 Lj134 (up2 (fZ (up2 (up2 (up2 (up2 (up2 (up2 (up2 (up2 (up2 (up2 (up2 fs42 2 8 1) 8 0 1) 74 6 0) 75 0 0) 76 0 0) 77 0 (-1)) 78 0 (-1)) 74 6 1) 80 8 1) 81 0 0) 80 7 0) 86 2048) 86 0 (1 &&& 1)) (up2 (up2 (up2 (up2 (up2 (up2 (up2 gs31 80 10 0) 82 0 0) 83 0 0) 80 9 1) 80 11 1) 84 0 0) 85 0 0) (wI M3 86 0 (1 &&& 1)) := cw_I h3 (by decide)
  generalize (wI M3 86 0 (1 &&& 1)) = M4 at h4 ⊢
  refine a_aload_n dX0_remember_54 rfl rfl ?_
  refine a_dup dX0_remember_55 rfl ?_
  refine a_get (v := .int 0) dX0_remember_56 fl_0_39 (cw_l h4 (by decide)) (cw_s h4 (by decide) rfl) (cw_gi h4 rfl (by decide) (by first | decide +kernel | rfl)) ?_
  refine a_iconst (v := 1) dX0_remember_59 (by decide) ?_
  refine a_iadd dX0_remember_60 ?_
  refine a_st (st2 := [.int 1, .ref 80]) (by decide +kernel) ?_
  refine a_putI dX0_remember_61 (Or.inl ⟨fl_0_39, Or.inl rfl⟩) rfl (cw_l h4 (by decide)) (cw_s h4 (by decide) rfl) rfl rfl ?_
  have h5 : Cw 126 Lj134 (up2 (up2 (fZ (up2 (up2 (up2 (up2 (up2 (up2 (up2 (up2 (up2 (up2 (up2 fs42 2 8 1) 8 0 1) 74 6 0) 75 0 0) 76 0 0) 77 0 (-1)) 78 0 (-1)) 74 6 1) 80 8 1) 81 0 0) 80 7 0) 86 2048) 86 0 (1 &&& 1)) 80 7 1) (up2 (up2 (up2 (up2 (up2 (up2 (up2 gs31 80 10 0) 82 0 0) 83 0 0) 80 9 1) 80 11 1) 84 0 0) 85 0 0) (wI M4 80 7 1) := cw_I h4 (by decide)
  generalize (wI M4 80 7 1) = M5 at h5 ⊢
  exact a_vret dX0_remember_64 rfl ⟨rfl, h5⟩
set_option maxHeartbeats 4000000 in
set_option maxRecDepth 100000 in
theorem z1059_X0_close {X : Nat × (Nat → Int32)} {fr : Nat} {M : Mem}  (h0 : Cw 126 Lj134 (fZ (up2 (up2 (up2 (up2 (up2 (up2 (up2 (up2 (up2 (up2 (up2 fs42 2 8 1) 8 0 1) 74 6 0) 75 0 0) 76 0 0) 77 0 (-1)) 78 0 (-1)) 74 6 1) 80 8 1) 81 0 0) 80 7 0) 86 2048) (up2 (up2 (up2 (up2 (up2 gs31 80 10 0) 82 0 0) 83 0 0) 80 9 1) 80 11 1) M) : AM yX0_close cX0_close 10 (some .long) true (fr + 5) 0 0 X [.ref 80, .long 0, .int 0] M (fun v M1 => v = some (.long 0) ∧ Cw 126 Lj134 (up2 (up2 (fZ (up2 (up2 (up2 (up2 (up2 (up2 (up2 (up2 (up2 (up2 (up2 fs42 2 8 1) 8 0 1) 74 6 0) 75 0 0) 76 0 0) 77 0 (-1)) 78 0 (-1)) 74 6 1) 80 8 1) 81 0 0) 80 7 0) 86 2048) 86 0 (1 &&& 1)) 80 7 1) (up2 (up2 (up2 (up2 (up2 (up2 (up2 gs31 80 10 0) 82 0 0) 83 0 0) 80 9 1) 80 11 1) 84 0 0) 85 0 0) M1) := by
  refine AM.of false (by decide +kernel) (by intro h; cases h) (Nat.le_of_ble_eq_true rfl) ?_
  show AW X (RX0, cX0_close, 10, (some .long), false, true, fr + 5) 0 0 0 [(0, .ref 80), (1, .long 0), (3, .int 0)] [] M _
  refine a_aload_n dX0_close_0 rfl rfl ?_
  refine a_lload_n dX0_close_1 rfl rfl ?_
  refine a_callV (As := [.long 0]) (st := []) (a := 80) (ci := 0) (bc := 0) (bs := 0) (mc := 0) (ms := 0) false dX0_close_2 mw_X0_saturate rfl (Or.inl ⟨rfl, ml_X0_96⟩) im_X0_saturate se_X0_saturate (by decide) (cw_l h0 (by decide)) (cw_s h0 (by decide) rfl) rfl (Nat.le_of_ble_eq_true rfl) (z1060_X0_saturate (fr := fr)  h0) (fun v M1 hq => ?_)
  obtain ⟨rfl, h1⟩ := hq
  show AW X _ 0 0 5 _ [.long 0] _ _
  refine a_lstore dX0_close_5 (Nat.le_of_ble_eq_true rfl) (lv2 := [(4, .long 0), (0, .ref 80), (1, .long 0), (3, .int 0)]) rfl ?_
  refine a_lload dX0_close_7 rfl ?_
  refine a_aload_n dX0_close_9 rfl rfl ?_
  refine a_get (v := .long 0) dX0_close_10 fl_0_84 (cw_l h1 (by decide)) (cw_s h1 (by decide) rfl) (cw_gj h1 rfl (by decide) (by decide +kernel)) ?_
  refine a_land dX0_close_13 ?_
  refine a_st (st2 := [.long 0]) (by decide +kernel) ?_
  refine a_lconst (v := 0) dX0_close_14 (by decide) ?_
  refine a_lcmp dX0_close_15 ?_
  refine a_st (st2 := [.int 0]) (by decide +kernel) ?_
  refine a_if_eq 23 dX0_close_16 (by decide) (fun _ => ?_) (fun c => absurd (by decide) c)
  refine a_iload_n dX0_close_23 rfl rfl ?_
  refine a_bipush (v := 64) dX0_close_24 (by decide) ?_
  refine a_icmp_le 32 dX0_close_26 (by decide) (fun _ => ?_) (fun c => absurd (by decide) c)
  refine a_aload_n dX0_close_32 rfl rfl ?_
  refine a_lload dX0_close_33 rfl ?_
  refine a_callV (As := [.long 0]) (st := []) (a := 80) (ci := 0) (bc := 0) (bs := 0) (mc := 0) (ms := 0) false dX0_close_35 mw_X0_memoSpot rfl (Or.inl ⟨rfl, ml_X0_101⟩) im_X0_memoSpot se_X0_memoSpot (by decide) (cw_l h1 (by decide)) (cw_s h1 (by decide) rfl) rfl (Nat.le_of_ble_eq_true rfl) (z1061_X0_memoSpot (fr := fr)  h1) (fun v M2 hq => ?_)
  obtain ⟨rfl, h2⟩ := hq
  show AW X _ 0 0 38 _ [.int 0] _ _
  refine a_istore dX0_close_38 (Nat.le_of_ble_eq_true rfl) (lv2 := [(6, .int 0), (4, .long 0), (0, .ref 80), (1, .long 0), (3, .int 0)]) rfl ?_
  refine a_iload dX0_close_40 rfl ?_
  refine a_if_lt 71 dX0_close_42 (by decide) (fun c => absurd c (by decide)) (fun _ => ?_)
  refine a_iload dX0_close_45 rfl ?_
  refine a_sipush (v := 2048) dX0_close_47 (by decide) ?_
  refine a_icmp_ge 71 dX0_close_50 (by decide) (fun c => absurd c (by decide)) (fun _ => ?_)
  refine a_aload_n dX0_close_53 rfl rfl ?_
  refine a_get (v := .ref 86) dX0_close_54 fl_0_28 (cw_l h2 (by decide)) (cw_s h2 (by decide) rfl) (cw_g h2 rfl (by decide +kernel)) ?_
  refine a_iload dX0_close_57 rfl ?_
  refine a_baload dX0_close_59 (by decide) (cw_l h2 (by decide)) (cw_s h2 (by decide) rfl) (by unfold vp_in; decide +kernel) ?_
  rw [show M2.2.2.1 86 (Int32.toNatClampNeg 0) = 0 from (cw_i h2 (by decide)).trans (by first | decide +kernel | rfl)]
  refine a_if_eq 71 dX0_close_60 (by decide) (fun _ => ?_) (fun c => absurd (by decide) c)
  refine a_aload_n dX0_close_71 rfl rfl ?_
  refine a_lload dX0_close_72 rfl ?_
  refine a_callV (As := [.long 0]) (st := []) (a := 80) (ci := 0) (bc := 0) (bs := 0) (mc := 0) (ms := 0) false dX0_close_74 mw_X0_openOr rfl (Or.inl ⟨rfl, ml_X0_105⟩) im_X0_openOr se_X0_openOr (by decide) (cw_l h2 (by decide)) (cw_s h2 (by decide) rfl) rfl (Nat.le_of_ble_eq_true rfl) (z1062_X0_openOr (fr := fr)  h2) (fun v M3 hq => ?_)
  obtain ⟨rfl, h3⟩ := hq
  show AW X _ 0 0 77 _ [.int (-1)] _ _
  refine a_istore dX0_close_77 (Nat.le_of_ble_eq_true rfl) (lv2 := [(7, .int (-1)), (6, .int 0), (4, .long 0), (0, .ref 80), (1, .long 0), (3, .int 0)]) rfl ?_
  refine a_iload dX0_close_79 rfl ?_
  refine a_if_lt 133 dX0_close_81 (by decide) (fun _ => ?_) (fun c => absurd (by decide) c)
  refine a_aload_n dX0_close_133 rfl rfl ?_
  refine a_lload dX0_close_134 rfl ?_
  refine a_iload_n dX0_close_136 rfl rfl ?_
  refine a_callV (As := [.long 0, .int 0]) (st := []) (a := 80) (ci := 0) (bc := 0) (bs := 0) (mc := 0) (ms := 0) false dX0_close_137 mw_X0_tryImps rfl (Or.inl ⟨rfl, ml_X0_108⟩) im_X0_tryImps se_X0_tryImps (by decide) (cw_l h3 (by decide)) (cw_s h3 (by decide) rfl) rfl (Nat.le_of_ble_eq_true rfl) (z1063_X0_tryImps (fr := fr)  h3) (fun v M4 hq => ?_)
  obtain ⟨rfl, h4⟩ := hq
  show AW X _ 0 0 140 _ [.long 0] _ _
  refine a_lstore dX0_close_140 (Nat.le_of_ble_eq_true rfl) (lv2 := [(8, .long 0), (7, .int (-1)), (6, .int 0), (4, .long 0), (0, .ref 80), (1, .long 0), (3, .int 0)]) rfl ?_
  refine a_aload_n dX0_close_142 rfl rfl ?_
  refine a_lload dX0_close_143 rfl ?_
  refine a_lload dX0_close_145 rfl ?_
  refine a_callV (As := [.long 0, .long 0]) (st := []) (a := 80) (ci := 0) (bc := 0) (bs := 0) (mc := 0) (ms := 0) false dX0_close_147 mw_X0_remember rfl (Or.inl ⟨rfl, ml_X0_111⟩) im_X0_remember se_X0_remember (by decide) (cw_l h4 (by decide)) (cw_s h4 (by decide) rfl) rfl (Nat.le_of_ble_eq_true rfl) (z1065_X0_remember (fr := fr)  h4) (fun v M5 hq => ?_)
  obtain ⟨rfl, h5⟩ := hq
  refine a_lload dX0_close_150 rfl ?_
  exact a_lret dX0_close_152 rfl ⟨rfl, h5⟩
set_option maxHeartbeats 4000000 in
set_option maxRecDepth 100000 in
theorem z1052_X0_decide {X : Nat × (Nat → Int32)} {fr : Nat} {M : Mem}  (h0 : Cw 126 Lj134 (up2 (up2 (up2 (up2 (up2 (up2 (up2 (up2 fs42 2 8 1) 8 0 1) 74 6 0) 75 0 0) 76 0 0) 77 0 (-1)) 78 0 (-1)) 74 6 1) gs31 M) : AM yX0_decide cX0_decide 6 (some .boolean) true (fr + 6) 0 0 X [.ref 80, .ref 10, .int 0] M (fun v M1 => v = some (.int 0) ∧ Cw 126 Lj134 (up2 (up2 (fZ (up2 (up2 (up2 (up2 (up2 (up2 (up2 (up2 (up2 (up2 (up2 fs42 2 8 1) 8 0 1) 74 6 0) 75 0 0) 76 0 0) 77 0 (-1)) 78 0 (-1)) 74 6 1) 80 8 1) 81 0 0) 80 7 0) 86 2048) 86 0 (1 &&& 1)) 80 7 1) (up2 (up2 (up2 (up2 (up2 (up2 (up2 gs31 80 10 0) 82 0 0) 83 0 0) 80 9 1) 80 11 1) 84 0 0) 85 0 0) M1) := by
  refine AM.of false (by decide +kernel) (by intro h; cases h) (Nat.le_of_ble_eq_true rfl) ?_
  show AW X (RX0, cX0_decide, 6, (some .boolean), false, true, fr + 6) 0 0 0 [(0, .ref 80), (1, .ref 10), (2, .int 0)] [] M _
  refine a_aload_n dX0_decide_0 rfl rfl ?_
  refine a_callV (As := []) (st := []) (a := 80) (ci := 0) (bc := 0) (bs := 0) (mc := 0) (ms := 0) false dX0_decide_1 mw_X0_takeParts rfl (Or.inl ⟨rfl, ml_X0_36⟩) im_X0_takeParts se_X0_takeParts (by decide) (cw_l h0 (by decide)) (cw_s h0 (by decide) rfl) rfl (Nat.le_of_ble_eq_true rfl) (z1053_X0_takeParts (fr := fr)  h0) (fun v M1 hq => ?_)
  obtain ⟨rfl, h1⟩ := hq
  refine a_aload_n dX0_decide_4 rfl rfl ?_
  refine a_iconst (v := 0) dX0_decide_5 (by decide) ?_
  refine a_putI dX0_decide_6 (Or.inl ⟨fl_0_39, Or.inl rfl⟩) rfl (cw_l h1 (by decide)) (cw_s h1 (by decide) rfl) rfl rfl ?_
  have h2 : Cw 126 Lj134 (up2 (up2 (up2 (up2 (up2 (up2 (up2 (up2 (up2 (up2 (up2 fs42 2 8 1) 8 0 1) 74 6 0) 75 0 0) 76 0 0) 77 0 (-1)) 78 0 (-1)) 74 6 1) 80 8 1) 81 0 0) 80 7 0) (up2 (up2 (up2 gs31 80 10 0) 82 0 0) 83 0 0) (wI M1 80 7 0) := cw_I h1 (by decide)
  generalize (wI M1 80 7 0) = M2 at h2 ⊢
  refine a_iconst (v := 0) dX0_decide_9 (by decide) ?_
  refine a_istore_n dX0_decide_10 rfl (Nat.le_of_ble_eq_true rfl) (lv2 := [(3, .int 0), (0, .ref 80), (1, .ref 10), (2, .int 0)]) rfl ?_
  refine lp_memo (L := Lj134) (f := (up2 (up2 (up2 (up2 (up2 (up2 (up2 (up2 (up2 (up2 (up2 fs42 2 8 1) 8 0 1) 74 6 0) 75 0 0) 76 0 0) 77 0 (-1)) 78 0 (-1)) 74 6 1) 80 8 1) 81 0 0) 80 7 0)) (g := (up2 (up2 (up2 gs31 80 10 0) 82 0 0) 83 0 0)) (by decide +kernel) (fun M3 h3 => ?_) 2048 0 _ rfl (by rw [fZ0]; exact h2)
  refine a_lconst (v := 0) dX0_decide_31 (by decide) ?_
  refine a_lstore_n dX0_decide_32 rfl (Nat.le_of_ble_eq_true rfl) (lv2 := [(3, .long 0), (0, .ref 80), (1, .ref 10), (2, .int 0)]) rfl ?_
  refine a_iconst (v := 0) dX0_decide_33 (by decide) ?_
  refine a_istore dX0_decide_34 (Nat.le_of_ble_eq_true rfl) (lv2 := [(5, .int 0), (3, .long 0), (0, .ref 80), (1, .ref 10), (2, .int 0)]) rfl ?_
  refine a_iload dX0_decide_36 rfl ?_
  refine a_aload_n dX0_decide_38 rfl rfl ?_
  refine a_getN (v := .int 0) dX0_decide_39 fn_0_43 (cw_l h3 (by decide)) (cw_s h3 (by decide) rfl) (cw_gi h3 rfl (by decide) (by first | decide +kernel | rfl)) ?_
  refine a_icmp_ge 70 dX0_decide_42 (by decide) (fun _ => ?_) (fun c => absurd (by decide) c)
  refine a_aload_n dX0_decide_70 rfl rfl ?_
  refine a_aload_n dX0_decide_71 rfl rfl ?_
  refine a_get (v := .ref 74) dX0_decide_72 fl_0_32 (cw_l h3 (by decide)) (cw_s h3 (by decide) rfl) (cw_g h3 rfl (by decide +kernel)) ?_
  refine a_iload_n dX0_decide_75 rfl rfl ?_
  refine a_callV (As := [.int 0]) (st := [.ref 80]) (a := 74) (ci := 5) (bc := 0) (bs := 0) (mc := 0) (ms := 0) false dX0_decide_76 mw_X5_spotOf rfl (Or.inl ⟨rfl, ml_X0_52⟩) im_X5_spotOf se_X5_spotOf (by decide) (cw_l h3 (by decide)) (cw_s h3 (by decide) rfl) rfl (Nat.le_of_ble_eq_true rfl) (z1055_X5_spotOf (fr := fr)  h3) (fun v M4 hq => ?_)
  obtain ⟨rfl, h4⟩ := hq
  show AW X _ 0 0 79 _ [.int 0, .ref 80] _ _
  refine a_callS (As := [.int 0]) (st := [.ref 80]) (bc := 0) (bs := 0) (mc := 0) (ms := 0) false dX0_decide_79 mw_X0_bit rfl (Or.inl ⟨rfl, ml_X0_57⟩) sm_X0_bit rfl (Nat.le_of_ble_eq_true rfl) (z1057_X0_bit (fr := fr)  h4) (fun v M5 hq => ?_)
  obtain ⟨rfl, h5⟩ := hq
  show AW X _ 0 0 82 _ [.long 1, .ref 80] _ _
  refine a_putJ dX0_decide_82 (Or.inl ⟨fl_0_61, Or.inl rfl⟩) rfl (cw_l h5 (by decide)) (cw_s h5 (by decide) rfl) ?_
  have h6 : Cw 126 Lj134 (fZ (up2 (up2 (up2 (up2 (up2 (up2 (up2 (up2 (up2 (up2 (up2 fs42 2 8 1) 8 0 1) 74 6 0) 75 0 0) 76 0 0) 77 0 (-1)) 78 0 (-1)) 74 6 1) 80 8 1) 81 0 0) 80 7 0) 86 2048) (up2 (up2 (up2 (up2 gs31 80 10 0) 82 0 0) 83 0 0) 80 9 1) (wJ M5 80 9 1) := cw_J h5 (by decide)
  generalize (wJ M5 80 9 1) = M6 at h6 ⊢
  refine a_aload_n dX0_decide_85 rfl rfl ?_
  refine a_aload_n dX0_decide_86 rfl rfl ?_
  refine a_lload_n dX0_decide_87 rfl rfl ?_
  refine a_callV (As := [.long 0]) (st := [.ref 80]) (a := 80) (ci := 0) (bc := 0) (bs := 0) (mc := 0) (ms := 0) false dX0_decide_88 mw_X0_findAsked rfl (Or.inl ⟨rfl, ml_X0_65⟩) im_X0_findAsked se_X0_findAsked (by decide) (cw_l h6 (by decide)) (cw_s h6 (by decide) rfl) rfl (Nat.le_of_ble_eq_true rfl) (z1058_X0_findAsked (fr := fr)  h6) (fun v M7 hq => ?_)
  obtain ⟨rfl, h7⟩ := hq
  show AW X _ 0 0 91 _ [.long 1, .ref 80] _ _
  refine a_putJ dX0_decide_91 (Or.inl ⟨fl_0_69, Or.inl rfl⟩) rfl (cw_l h7 (by decide)) (cw_s h7 (by decide) rfl) ?_
  have h8 : Cw 126 Lj134 (fZ (up2 (up2 (up2 (up2 (up2 (up2 (up2 (up2 (up2 (up2 (up2 fs42 2 8 1) 8 0 1) 74 6 0) 75 0 0) 76 0 0) 77 0 (-1)) 78 0 (-1)) 74 6 1) 80 8 1) 81 0 0) 80 7 0) 86 2048) (up2 (up2 (up2 (up2 (up2 gs31 80 10 0) 82 0 0) 83 0 0) 80 9 1) 80 11 1) (wJ M7 80 11 1) := cw_J h7 (by decide)
  generalize (wJ M7 80 11 1) = M8 at h8 ⊢
  refine a_aload_n dX0_decide_94 rfl rfl ?_
  refine a_lload_n dX0_decide_95 rfl rfl ?_
  refine a_iconst (v := 0) dX0_decide_96 (by decide) ?_
  refine a_callV (As := [.long 0, .int 0]) (st := []) (a := 80) (ci := 0) (bc := 0) (bs := 0) (mc := 0) (ms := 0) false dX0_decide_97 mw_X0_close rfl (Or.inl ⟨rfl, ml_X0_72⟩) im_X0_close se_X0_close (by decide) (cw_l h8 (by decide)) (cw_s h8 (by decide) rfl) rfl (Nat.le_of_ble_eq_true rfl) (z1059_X0_close (fr := fr)  h8) (fun v M9 hq => ?_)
  obtain ⟨rfl, h9⟩ := hq
  show AW X _ 0 0 100 _ [.long 0] _ _
  refine a_aload_n dX0_decide_100 rfl rfl ?_
  refine a_get (v := .long 1) dX0_decide_101 fl_0_61 (cw_l h9 (by decide)) (cw_s h9 (by decide) rfl) (cw_gj h9 rfl (by decide) (by decide +kernel)) ?_
  refine a_land dX0_decide_104 ?_
  refine a_st (st2 := [.long 0]) (by decide +kernel) ?_
  refine a_lconst (v := 0) dX0_decide_105 (by decide) ?_
  refine a_lcmp dX0_decide_106 ?_
  refine a_st (st2 := [.int 0]) (by decide +kernel) ?_
  refine a_if_eq 114 dX0_decide_107 (by decide) (fun _ => ?_) (fun c => absurd (by decide) c)
  refine a_iconst (v := 0) dX0_decide_114 (by decide) ?_
  exact a_zret dX0_decide_115 rfl (by decide) ⟨rfl, h9⟩
set_option maxHeartbeats 4000000 in
set_option maxRecDepth 100000 in
theorem z1050_X10_provableFrom {X : Nat × (Nat → Int32)} {fr : Nat} {M : Mem}  (h0 : Cw 126 Lj134 fs42 gs31 M) : AM yX10_provableFrom cX10_provableFrom 2 (some .int) true (fr + 7) 0 0 X [.ref 0, .int 0] M (fun v M1 => v = some (.int 0) ∧ Cw 126 Lj134 (up2 (up2 (fZ (up2 (up2 (up2 (up2 (up2 (up2 (up2 (up2 (up2 (up2 (up2 fs42 2 8 1) 8 0 1) 74 6 0) 75 0 0) 76 0 0) 77 0 (-1)) 78 0 (-1)) 74 6 1) 80 8 1) 81 0 0) 80 7 0) 86 2048) 86 0 (1 &&& 1)) 80 7 1) (up2 (up2 (up2 (up2 (up2 (up2 (up2 gs31 80 10 0) 82 0 0) 83 0 0) 80 9 1) 80 11 1) 84 0 0) 85 0 0) M1) := by
  refine AM.of false (by decide +kernel) (by intro h; cases h) (Nat.le_of_ble_eq_true rfl) ?_
  show AW X (RX10, cX10_provableFrom, 2, (some .int), false, true, fr + 7) 0 0 0 [(0, .ref 0), (1, .int 0)] [] M _
  refine a_aload_n dX10_provableFrom_0 rfl rfl ?_
  refine a_get (v := .ref 10) dX10_provableFrom_1 fl_10_23 (cw_l h0 (by decide)) (cw_s h0 (by decide) rfl) (cw_g h0 rfl (by decide +kernel)) ?_
  refine a_callV (As := []) (st := []) (a := 10) (ci := 2) (bc := 0) (bs := 0) (mc := 0) (ms := 0) false dX10_provableFrom_4 mw_X2_wordsInAll rfl (Or.inl ⟨rfl, ml_X10_320⟩) im_X2_wordsInAll se_X2_wordsInAll (by decide) (cw_l h0 (by decide)) (cw_s h0 (by decide) rfl) rfl (Nat.le_of_ble_eq_true rfl) (z1051_X2_wordsInAll (fr := fr)  h0) (fun v M1 hq => ?_)
  obtain ⟨rfl, h1⟩ := hq
  show AW X _ 0 0 7 _ [.int 0] _ _
  refine a_aload_n dX10_provableFrom_7 rfl rfl ?_
  refine a_get (v := .int 1) dX10_provableFrom_8 fl_10_109 (cw_l h1 (by decide)) (cw_s h1 (by decide) rfl) (cw_gi h1 rfl (by decide) (by first | decide +kernel | rfl)) ?_
  refine a_iadd dX10_provableFrom_11 ?_
  refine a_st (st2 := [.int 1]) (by decide +kernel) ?_
  refine a_bipush (v := 40) dX10_provableFrom_12 (by decide) ?_
  refine a_icmp_le 20 dX10_provableFrom_14 (by decide) (fun _ => ?_) (fun c => absurd (by decide) c)
  refine a_aload_n dX10_provableFrom_20 rfl rfl ?_
  refine a_get (v := .ref 74) dX10_provableFrom_21 fl_10_86 (cw_l h1 (by decide)) (cw_s h1 (by decide) rfl) (cw_g h1 rfl (by decide +kernel)) ?_
  refine a_aload_n dX10_provableFrom_24 rfl rfl ?_
  refine a_get (v := .ref 10) dX10_provableFrom_25 fl_10_23 (cw_l h1 (by decide)) (cw_s h1 (by decide) rfl) (cw_g h1 rfl (by decide +kernel)) ?_
  refine a_iload_n dX10_provableFrom_28 rfl rfl ?_
  refine a_callV (As := [.ref 10, .int 0]) (st := []) (a := 74) (ci := 5) (bc := 0) (bs := 0) (mc := 0) (ms := 0) false dX10_provableFrom_29 mw_X5_collect rfl (Or.inl ⟨rfl, ml_X10_323⟩) im_X5_collect se_X5_collect (by decide) (cw_l h1 (by decide)) (cw_s h1 (by decide) rfl) rfl (Nat.le_of_ble_eq_true rfl) (z1029_X5_collect (fr := fr)  h1) (fun v M2 hq => ?_)
  obtain ⟨rfl, h2⟩ := hq
  refine a_aload_n dX10_provableFrom_32 rfl rfl ?_
  refine a_get (v := .ref 80) dX10_provableFrom_33 fl_10_95 (cw_l h2 (by decide)) (cw_s h2 (by decide) rfl) (cw_g h2 rfl (by decide +kernel)) ?_
  refine a_aload_n dX10_provableFrom_36 rfl rfl ?_
  refine a_get (v := .ref 10) dX10_provableFrom_37 fl_10_23 (cw_l h2 (by decide)) (cw_s h2 (by decide) rfl) (cw_g h2 rfl (by decide +kernel)) ?_
  refine a_iload_n dX10_provableFrom_40 rfl rfl ?_
  refine a_callV (As := [.ref 10, .int 0]) (st := []) (a := 80) (ci := 0) (bc := 0) (bs := 0) (mc := 0) (ms := 0) false dX10_provableFrom_41 mw_X0_decide rfl (Or.inl ⟨rfl, ml_X10_327⟩) im_X0_decide se_X0_decide (by decide) (cw_l h2 (by decide)) (cw_s h2 (by decide) rfl) rfl (Nat.le_of_ble_eq_true rfl) (z1052_X0_decide (fr := fr)  h2) (fun v M3 hq => ?_)
  obtain ⟨rfl, h3⟩ := hq
  show AW X _ 0 0 44 _ [.int 0] _ _
  refine a_if_eq 51 dX10_provableFrom_44 (by decide) (fun _ => ?_) (fun c => absurd (by decide) c)
  refine a_iconst (v := 0) dX10_provableFrom_51 (by decide) ?_
  exact a_iret dX10_provableFrom_52 rfl ⟨rfl, h3⟩
set_option maxHeartbeats 4000000 in
set_option maxRecDepth 100000 in
theorem p_provable {X : Nat × (Nat → Int32)} {fr : Nat} {M : Mem}  (h0 : Cw 126 Lj134 fs42 gs31 M) : AM yX10_provable cX10_provable 1 (some .int) true (fr + 8) 0 0 X [.ref 0] M (fun v M1 => v = some (.int 0) ∧ Fm M1) := by
  refine AM.of false (by decide +kernel) (by intro h; cases h) (Nat.le_of_ble_eq_true rfl) ?_
  show AW X (RX10, cX10_provable, 1, (some .int), false, true, fr + 8) 0 0 0 [(0, .ref 0)] [] M _
  refine a_aload_n dX10_provable_0 rfl rfl ?_
  refine a_aload_n dX10_provable_1 rfl rfl ?_
  refine a_get (v := .int 0) dX10_provable_2 fl_10_105 (cw_l h0 (by decide)) (cw_s h0 (by decide) rfl) (cw_gi h0 rfl (by decide) (by first | decide +kernel | rfl)) ?_
  refine a_callV (As := [.int 0]) (st := []) (a := 0) (ci := 10) (bc := 0) (bs := 0) (mc := 0) (ms := 0) false dX10_provable_5 mw_X10_provableFrom rfl (Or.inl ⟨rfl, ml_X10_311⟩) im_X10_provableFrom se_X10_provableFrom (by decide) (cw_l h0 (by decide)) (cw_s h0 (by decide) rfl) rfl (Nat.le_of_ble_eq_true rfl) (z1050_X10_provableFrom (fr := fr)  h0) (fun v M1 hq => ?_)
  obtain ⟨rfl, h1⟩ := hq
  show AW X _ 0 0 8 _ [.int 0] _ _
  exact a_iret dX10_provable_8 rfl ⟨by first | rfl | decide +kernel | simp [*], fm_of h1 (fun a k ha => by solve | rfl | (repeat (first | rw [up2_a _ _ _ _ (by omega)] | rw [fZ_a (by omega)])))⟩
