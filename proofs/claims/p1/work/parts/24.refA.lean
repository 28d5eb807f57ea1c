theorem ne0 {x : Int32} (h : 0 < x) : ¬ (0 = x) := by
  intro q
  have a1 := Int32.lt_iff_toInt_lt.mp h
  rw [← q] at a1
  omega
set_option maxHeartbeats 4000000 in
set_option maxRecDepth 100000 in
theorem k_isIn {X : Nat × (Nat → Int32)} {M : Mem} {al : Bool} {fr : Nat} (v lo hi : Int64) : AM yX11_isIn cX11_isIn 6 (some .boolean) al fr 0 0 X [.long v, .long lo, .long hi] M (fun r M1 => r = some (.int (isE v lo hi)) ∧ M1 = M) := by
  refine AM.of false (by decide +kernel) (by first | (intro _; rfl) | (intro h; cases h)) (Nat.le_of_ble_eq_true rfl) ?_
  show AW X (RX11, cX11_isIn, 6, (some .boolean), false, al, fr) 0 0 0 [(0, .long v), (2, .long lo), (4, .long hi)] [] M _
  refine a_lload_n dX11_isIn_0 rfl rfl ?_
  refine a_lload_n dX11_isIn_1 rfl rfl ?_
  refine a_lcmp dX11_isIn_2 ?_
  refine a_if_lt 17 dX11_isIn_3 (by decide) (fun c1 => ?_) (fun c1 => ?_)
  · refine a_iconst (v := 0) dX11_isIn_17 (by decide) ?_
    exact a_zret dX11_isIn_18 rfl rfl (⟨by unfold isE; solve | rfl | (repeat (first | rw [if_pos (by assumption)] | rw [if_neg (by assumption)])), rfl⟩)
  · refine a_lload_n dX11_isIn_6 rfl rfl ?_
    refine a_lload dX11_isIn_7 rfl ?_
    refine a_lcmp dX11_isIn_9 ?_
    refine a_if_gt 17 dX11_isIn_10 (by decide) (fun c2 => ?_) (fun c2 => ?_)
    · refine a_iconst (v := 0) dX11_isIn_17 (by decide) ?_
      exact a_zret dX11_isIn_18 rfl rfl (⟨by unfold isE; solve | rfl | (repeat (first | rw [if_pos (by assumption)] | rw [if_neg (by assumption)])), rfl⟩)
    · refine a_iconst (v := 1) dX11_isIn_13 (by decide) ?_
      refine a_goto 18 dX11_isIn_14 (by decide) ?_
      exact a_zret dX11_isIn_18 rfl rfl (⟨by unfold isE; solve | rfl | (repeat (first | rw [if_pos (by assumption)] | rw [if_neg (by assumption)])), rfl⟩)

set_option maxHeartbeats 4000000 in
set_option maxRecDepth 100000 in
theorem q_feed {X : Nat × (Nat → Int32)} {fr : Nat} {M : Mem} (a : Int32) (b : Int32) (c : Int32) (d : Int32) (e : Int32) (h0 : Cm fs42 M) : AM yX11_feed cX11_feed 8 (some .int) true (fr + 12) 0 0 X [.ref 89, .int a, .int b, .int c, .int d, .int e] M (fun v M1 => v = some (.int 20) ∧ True) := by
  refine AM.of false (by decide +kernel) (by intro h; cases h) (Nat.le_of_ble_eq_true rfl) ?_
  show AW X (RX11, cX11_feed, 8, (some .int), false, true, fr + 12) 0 0 0 [(0, .ref 89), (1, .int a), (2, .int b), (3, .int c), (4, .int d), (5, .int e)] [] M _
  refine a_aload_n dX11_feed_0 rfl rfl ?_
  refine a_iconst (v := 0) dX11_feed_1 (by decide) ?_
  refine a_putI dX11_feed_2 (Or.inl ⟨fl_11_1, Or.inl rfl⟩) rfl (cm_l h0 (by decide)) (cm_s h0 (by decide) rfl) rfl rfl ?_
  have h1 : Cm (up2 fs42 89 0 0) (wI M 89 0 0) := cm_I h0 (by decide)
  generalize (wI M 89 0 0) = M1 at h1 ⊢
  refine a_aload_n dX11_feed_5 rfl rfl ?_
  refine a_get (v := .int 0) dX11_feed_6 fl_11_154 (cm_l h1 (by decide)) (cm_s h1 (by decide) rfl) (cm_gi h1 rfl (by decide) (by first | decide +kernel | rfl)) ?_
  refine a_bipush (v := 20) dX11_feed_9 (by decide) ?_
  refine a_iadd dX11_feed_11 ?_
  refine a_st (st2 := [.int 20]) (by first | decide +kernel | (refine congrArg (fun z => Value.int z :: []) ?_; decide +kernel) | (refine congrArg (fun z => Value.long z :: []) ?_; decide +kernel)) ?_
  refine a_sipush (v := 600) dX11_feed_12 (by decide) ?_
  refine a_icmp_le 21 dX11_feed_15 (by decide) (fun _ => ?_) (fun c => absurd (by decide) c)
  refine a_iconst (v := 0) dX11_feed_21 (by decide) ?_
  refine a_istore dX11_feed_22 (Nat.le_of_ble_eq_true rfl) (lv2 := [(6, .int 0), (0, .ref 89), (1, .int a), (2, .int b), (3, .int c), (4, .int d), (5, .int e)]) rfl ?_
  refine a_iload dX11_feed_24 rfl ?_
  refine a_bipush (v := 20) dX11_feed_26 (by decide) ?_
  refine a_icmp_ge 118 dX11_feed_28 (by decide) (fun c => absurd c (by decide)) (fun _ => ?_)
  refine a_iload dX11_feed_31 rfl ?_
  refine a_iconst (v := 4) dX11_feed_33 (by decide) ?_
  refine a_icmp_ge 41 dX11_feed_34 (by decide) (fun c => absurd c (by decide)) (fun _ => ?_)
  refine a_iload_n dX11_feed_37 rfl rfl ?_
  refine a_goto 77 dX11_feed_38 (by decide) ?_
  refine a_istore dX11_feed_77 (Nat.le_of_ble_eq_true rfl) (lv2 := [(7, .int a), (6, .int 0), (0, .ref 89), (1, .int a), (2, .int b), (3, .int c), (4, .int d), (5, .int e)]) rfl ?_
  refine a_aload_n dX11_feed_79 rfl rfl ?_
  refine a_get (v := .ref 109) dX11_feed_80 fl_11_71 (cm_l h1 (by decide)) (cm_s h1 (by decide) rfl) (cm_g h1 rfl (by decide +kernel)) ?_
  refine a_aload_n dX11_feed_83 rfl rfl ?_
  refine a_get (v := .int 0) dX11_feed_84 fl_11_154 (cm_l h1 (by decide)) (cm_s h1 (by decide) rfl) (cm_gi h1 rfl (by decide) (by first | decide +kernel | rfl)) ?_
  refine a_iload dX11_feed_87 rfl ?_
  refine a_bipush (v := 24) dX11_feed_89 (by decide) ?_
  refine a_bipush (v := 8) dX11_feed_91 (by decide) ?_
  refine a_iload dX11_feed_93 rfl ?_
  refine a_iconst (v := 4) dX11_feed_95 (by decide) ?_
  refine a_irem dX11_feed_96 (by decide) ?_
  refine a_st (st2 := [.int 0, .int 8, .int 24, .int a, .int 0, .ref 109]) (by first | decide +kernel | (refine congrArg (fun z => Value.int z :: [.int 8, .int 24, .int a, .int 0, .ref 109]) ?_; decide +kernel) | (refine congrArg (fun z => Value.long z :: [.int 8, .int 24, .int a, .int 0, .ref 109]) ?_; decide +kernel)) ?_
  refine a_imul dX11_feed_97 ?_
  refine a_st (st2 := [.int 0, .int 24, .int a, .int 0, .ref 109]) (by first | decide +kernel | (refine congrArg (fun z => Value.int z :: [.int 24, .int a, .int 0, .ref 109]) ?_; decide +kernel) | (refine congrArg (fun z => Value.long z :: [.int 24, .int a, .int 0, .ref 109]) ?_; decide +kernel)) ?_
  refine a_isub dX11_feed_98 ?_
  refine a_st (st2 := [.int 24, .int a, .int 0, .ref 109]) (by first | decide +kernel | (refine congrArg (fun z => Value.int z :: [.int a, .int 0, .ref 109]) ?_; decide +kernel) | (refine congrArg (fun z => Value.long z :: [.int a, .int 0, .ref 109]) ?_; decide +kernel)) ?_
  refine a_ishr dX11_feed_99 ?_
  refine a_i2b dX11_feed_100 ?_
  refine a_bastore0 dX11_feed_101 (cm_l h1 (by decide)) (cm_s h1 (by decide) rfl) (by unfold vp_in; decide +kernel) ?_
  rw [show Int32.toNatClampNeg 0 = 0 from by decide +kernel]
  have h2 : Cm (up2 (up2 fs42 89 0 0) 109 0 ((Int32.toInt8 ((Int32.toInt8 (a >>> (24 &&& 31))).toInt32)).toInt32)) (wI M1 109 0 ((Int32.toInt8 ((Int32.toInt8 (a >>> (24 &&& 31))).toInt32)).toInt32)) := cm_I h1 (by decide)
  generalize (wI M1 109 0 ((Int32.toInt8 ((Int32.toInt8 (a >>> (24 &&& 31))).toInt32)).toInt32)) = M2 at h2 ⊢
  refine a_aload_n dX11_feed_102 rfl rfl ?_
  refine a_dup dX11_feed_103 rfl ?_
  refine a_get (v := .int 0) dX11_feed_104 fl_11_154 (cm_l h2 (by decide)) (cm_s h2 (by decide) rfl) (cm_gi h2 rfl (by decide) (by first | decide +kernel | rfl)) ?_
  refine a_iconst (v := 1) dX11_feed_107 (by decide) ?_
  refine a_iadd dX11_feed_108 ?_
  refine a_st (st2 := [.int 1, .ref 89]) (by first | decide +kernel | (refine congrArg (fun z => Value.int z :: [.ref 89]) ?_; decide +kernel) | (refine congrArg (fun z => Value.long z :: [.ref 89]) ?_; decide +kernel)) ?_
  refine a_putI dX11_feed_109 (Or.inl ⟨fl_11_154, Or.inl rfl⟩) rfl (cm_l h2 (by decide)) (cm_s h2 (by decide) rfl) rfl rfl ?_
  have h3 : Cm (up2 (up2 (up2 fs42 89 0 0) 109 0 ((Int32.toInt8 ((Int32.toInt8 (a >>> (24 &&& 31))).toInt32)).toInt32)) 89 27 1) (wI M2 89 27 1) := cm_I h2 (by decide)
  generalize (wI M2 89 27 1) = M3 at h3 ⊢
  refine a_iinc (v := 1) dX11_feed_112 rfl (by decide) (Nat.le_of_ble_eq_true rfl) (lv2 := [(6, .int 1), (7, .int a), (0, .ref 89), (1, .int a), (2, .int b), (3, .int c), (4, .int d), (5, .int e)]) rfl ?_
  refine a_goto 24 dX11_feed_115 (by decide) ?_
  refine a_iload dX11_feed_24 rfl ?_
  refine a_bipush (v := 20) dX11_feed_26 (by decide) ?_
  refine a_icmp_ge 118 dX11_feed_28 (by decide) (fun c => absurd c (by decide)) (fun _ => ?_)
  refine a_iload dX11_feed_31 rfl ?_
  refine a_iconst (v := 4) dX11_feed_33 (by decide) ?_
  refine a_icmp_ge 41 dX11_feed_34 (by decide) (fun c => absurd c (by decide)) (fun _ => ?_)
  refine a_iload_n dX11_feed_37 rfl rfl ?_
  refine a_goto 77 dX11_feed_38 (by decide) ?_
  refine a_istore dX11_feed_77 (Nat.le_of_ble_eq_true rfl) (lv2 := [(7, .int a), (6, .int 1), (0, .ref 89), (1, .int a), (2, .int b), (3, .int c), (4, .int d), (5, .int e)]) rfl ?_
  refine a_aload_n dX11_feed_79 rfl rfl ?_
  refine a_get (v := .ref 109) dX11_feed_80 fl_11_71 (cm_l h3 (by decide)) (cm_s h3 (by decide) rfl) (cm_g h3 rfl (by decide +kernel)) ?_
  refine a_aload_n dX11_feed_83 rfl rfl ?_
  refine a_get (v := .int 1) dX11_feed_84 fl_11_154 (cm_l h3 (by decide)) (cm_s h3 (by decide) rfl) (cm_gi h3 rfl (by decide) (by first | decide +kernel | rfl)) ?_
  refine a_iload dX11_feed_87 rfl ?_
  refine a_bipush (v := 24) dX11_feed_89 (by decide) ?_
  refine a_bipush (v := 8) dX11_feed_91 (by decide) ?_
  refine a_iload dX11_feed_93 rfl ?_
  refine a_iconst (v := 4) dX11_feed_95 (by decide) ?_
  refine a_irem dX11_feed_96 (by decide) ?_
  refine a_st (st2 := [.int 1, .int 8, .int 24, .int a, .int 1, .ref 109]) (by first | decide +kernel | (refine congrArg (fun z => Value.int z :: [.int 8, .int 24, .int a, .int 1, .ref 109]) ?_; decide +kernel) | (refine congrArg (fun z => Value.long z :: [.int 8, .int 24, .int a, .int 1, .ref 109]) ?_; decide +kernel)) ?_
  refine a_imul dX11_feed_97 ?_
  refine a_st (st2 := [.int 8, .int 24, .int a, .int 1, .ref 109]) (by first | decide +kernel | (refine congrArg (fun z => Value.int z :: [.int 24, .int a, .int 1, .ref 109]) ?_; decide +kernel) | (refine congrArg (fun z => Value.long z :: [.int 24, .int a, .int 1, .ref 109]) ?_; decide +kernel)) ?_
  refine a_isub dX11_feed_98 ?_
  refine a_st (st2 := [.int 16, .int a, .int 1, .ref 109]) (by first | decide +kernel | (refine congrArg (fun z => Value.int z :: [.int a, .int 1, .ref 109]) ?_; decide +kernel) | (refine congrArg (fun z => Value.long z :: [.int a, .int 1, .ref 109]) ?_; decide +kernel)) ?_
  refine a_ishr dX11_feed_99 ?_
  refine a_i2b dX11_feed_100 ?_
  refine a_bastore0 dX11_feed_101 (cm_l h3 (by decide)) (cm_s h3 (by decide) rfl) (by unfold vp_in; decide +kernel) ?_
  rw [show Int32.toNatClampNeg 1 = 1 from by decide +kernel]
  have h4 : Cm (up2 (up2 (up2 (up2 fs42 89 0 0) 109 0 ((Int32.toInt8 ((Int32.toInt8 (a >>> (24 &&& 31))).toInt32)).toInt32)) 89 27 1) 109 1 ((Int32.toInt8 ((Int32.toInt8 (a >>> (16 &&& 31))).toInt32)).toInt32)) (wI M3 109 1 ((Int32.toInt8 ((Int32.toInt8 (a >>> (16 &&& 31))).toInt32)).toInt32)) := cm_I h3 (by decide)
  generalize (wI M3 109 1 ((Int32.toInt8 ((Int32.toInt8 (a >>> (16 &&& 31))).toInt32)).toInt32)) = M4 at h4 ⊢
  refine a_aload_n dX11_feed_102 rfl rfl ?_
  refine a_dup dX11_feed_103 rfl ?_
  refine a_get (v := .int 1) dX11_feed_104 fl_11_154 (cm_l h4 (by decide)) (cm_s h4 (by decide) rfl) (cm_gi h4 rfl (by decide) (by first | decide +kernel | rfl)) ?_
  refine a_iconst (v := 1) dX11_feed_107 (by decide) ?_
  refine a_iadd dX11_feed_108 ?_
  refine a_st (st2 := [.int 2, .ref 89]) (by first | decide +kernel | (refine congrArg (fun z => Value.int z :: [.ref 89]) ?_; decide +kernel) | (refine congrArg (fun z => Value.long z :: [.ref 89]) ?_; decide +kernel)) ?_
  refine a_putI dX11_feed_109 (Or.inl ⟨fl_11_154, Or.inl rfl⟩) rfl (cm_l h4 (by decide)) (cm_s h4 (by decide) rfl) rfl rfl ?_
  have h5 : Cm (up2 (up2 (up2 (up2 (up2 fs42 89 0 0) 109 0 ((Int32.toInt8 ((Int32.toInt8 (a >>> (24 &&& 31))).toInt32)).toInt32)) 89 27 1) 109 1 ((Int32.toInt8 ((Int32.toInt8 (a >>> (16 &&& 31))).toInt32)).toInt32)) 89 27 2) (wI M4 89 27 2) := cm_I h4 (by decide)
  generalize (wI M4 89 27 2) = M5 at h5 ⊢
  refine a_iinc (v := 2) dX11_feed_112 rfl (by decide) (Nat.le_of_ble_eq_true rfl) (lv2 := [(6, .int 2), (7, .int a), (0, .ref 89), (1, .int a), (2, .int b), (3, .int c), (4, .int d), (5, .int e)]) rfl ?_
  refine a_goto 24 dX11_feed_115 (by decide) ?_
  refine a_iload dX11_feed_24 rfl ?_
  refine a_bipush (v := 20) dX11_feed_26 (by decide) ?_
  refine a_icmp_ge 118 dX11_feed_28 (by decide) (fun c => absurd c (by decide)) (fun _ => ?_)
  refine a_iload dX11_feed_31 rfl ?_
  refine a_iconst (v := 4) dX11_feed_33 (by decide) ?_
  refine a_icmp_ge 41 dX11_feed_34 (by decide) (fun c => absurd c (by decide)) (fun _ => ?_)
  refine a_iload_n dX11_feed_37 rfl rfl ?_
  refine a_goto 77 dX11_feed_38 (by decide) ?_
  refine a_istore dX11_feed_77 (Nat.le_of_ble_eq_true rfl) (lv2 := [(7, .int a), (6, .int 2), (0, .ref 89), (1, .int a), (2, .int b), (3, .int c), (4, .int d), (5, .int e)]) rfl ?_
  refine a_aload_n dX11_feed_79 rfl rfl ?_
  refine a_get (v := .ref 109) dX11_feed_80 fl_11_71 (cm_l h5 (by decide)) (cm_s h5 (by decide) rfl) (cm_g h5 rfl (by decide +kernel)) ?_
  refine a_aload_n dX11_feed_83 rfl rfl ?_
  refine a_get (v := .int 2) dX11_feed_84 fl_11_154 (cm_l h5 (by decide)) (cm_s h5 (by decide) rfl) (cm_gi h5 rfl (by decide) (by first | decide +kernel | rfl)) ?_
  refine a_iload dX11_feed_87 rfl ?_
  refine a_bipush (v := 24) dX11_feed_89 (by decide) ?_
  refine a_bipush (v := 8) dX11_feed_91 (by decide) ?_
  refine a_iload dX11_feed_93 rfl ?_
  refine a_iconst (v := 4) dX11_feed_95 (by decide) ?_
  refine a_irem dX11_feed_96 (by decide) ?_
  refine a_st (st2 := [.int 2, .int 8, .int 24, .int a, .int 2, .ref 109]) (by first | decide +kernel | (refine congrArg (fun z => Value.int z :: [.int 8, .int 24, .int a, .int 2, .ref 109]) ?_; decide +kernel) | (refine congrArg (fun z => Value.long z :: [.int 8, .int 24, .int a, .int 2, .ref 109]) ?_; decide +kernel)) ?_
  refine a_imul dX11_feed_97 ?_
  refine a_st (st2 := [.int 16, .int 24, .int a, .int 2, .ref 109]) (by first | decide +kernel | (refine congrArg (fun z => Value.int z :: [.int 24, .int a, .int 2, .ref 109]) ?_; decide +kernel) | (refine congrArg (fun z => Value.long z :: [.int 24, .int a, .int 2, .ref 109]) ?_; decide +kernel)) ?_
  refine a_isub dX11_feed_98 ?_
  refine a_st (st2 := [.int 8, .int a, .int 2, .ref 109]) (by first | decide +kernel | (refine congrArg (fun z => Value.int z :: [.int a, .int 2, .ref 109]) ?_; decide +kernel) | (refine congrArg (fun z => Value.long z :: [.int a, .int 2, .ref 109]) ?_; decide +kernel)) ?_
  refine a_ishr dX11_feed_99 ?_
  refine a_i2b dX11_feed_100 ?_
  refine a_bastore0 dX11_feed_101 (cm_l h5 (by decide)) (cm_s h5 (by decide) rfl) (by unfold vp_in; decide +kernel) ?_
  rw [show Int32.toNatClampNeg 2 = 2 from by decide +kernel]
  have h6 : Cm (up2 (up2 (up2 (up2 (up2 (up2 fs42 89 0 0) 109 0 ((Int32.toInt8 ((Int32.toInt8 (a >>> (24 &&& 31))).toInt32)).toInt32)) 89 27 1) 109 1 ((Int32.toInt8 ((Int32.toInt8 (a >>> (16 &&& 31))).toInt32)).toInt32)) 89 27 2) 109 2 ((Int32.toInt8 ((Int32.toInt8 (a >>> (8 &&& 31))).toInt32)).toInt32)) (wI M5 109 2 ((Int32.toInt8 ((Int32.toInt8 (a >>> (8 &&& 31))).toInt32)).toInt32)) := cm_I h5 (by decide)
  generalize (wI M5 109 2 ((Int32.toInt8 ((Int32.toInt8 (a >>> (8 &&& 31))).toInt32)).toInt32)) = M6 at h6 ⊢
  refine a_aload_n dX11_feed_102 rfl rfl ?_
  refine a_dup dX11_feed_103 rfl ?_
  refine a_get (v := .int 2) dX11_feed_104 fl_11_154 (cm_l h6 (by decide)) (cm_s h6 (by decide) rfl) (cm_gi h6 rfl (by decide) (by first | decide +kernel | rfl)) ?_
  refine a_iconst (v := 1) dX11_feed_107 (by decide) ?_
  refine a_iadd dX11_feed_108 ?_
  refine a_st (st2 := [.int 3, .ref 89]) (by first | decide +kernel | (refine congrArg (fun z => Value.int z :: [.ref 89]) ?_; decide +kernel) | (refine congrArg (fun z => Value.long z :: [.ref 89]) ?_; decide +kernel)) ?_
  refine a_putI dX11_feed_109 (Or.inl ⟨fl_11_154, Or.inl rfl⟩) rfl (cm_l h6 (by decide)) (cm_s h6 (by decide) rfl) rfl rfl ?_
  have h7 : Cm (up2 (up2 (up2 (up2 (up2 (up2 (up2 fs42 89 0 0) 109 0 ((Int32.toInt8 ((Int32.toInt8 (a >>> (24 &&& 31))).toInt32)).toInt32)) 89 27 1) 109 1 ((Int32.toInt8 ((Int32.toInt8 (a >>> (16 &&& 31))).toInt32)).toInt32)) 89 27 2) 109 2 ((Int32.toInt8 ((Int32.toInt8 (a >>> (8 &&& 31))).toInt32)).toInt32)) 89 27 3) (wI M6 89 27 3) := cm_I h6 (by decide)
  generalize (wI M6 89 27 3) = M7 at h7 ⊢
  refine a_iinc (v := 3) dX11_feed_112 rfl (by decide) (Nat.le_of_ble_eq_true rfl) (lv2 := [(6, .int 3), (7, .int a), (0, .ref 89), (1, .int a), (2, .int b), (3, .int c), (4, .int d), (5, .int e)]) rfl ?_
  refine a_goto 24 dX11_feed_115 (by decide) ?_
  refine a_iload dX11_feed_24 rfl ?_
  refine a_bipush (v := 20) dX11_feed_26 (by decide) ?_
  refine a_icmp_ge 118 dX11_feed_28 (by decide) (fun c => absurd c (by decide)) (fun _ => ?_)
  refine a_iload dX11_feed_31 rfl ?_
  refine a_iconst (v := 4) dX11_feed_33 (by decide) ?_
  refine a_icmp_ge 41 dX11_feed_34 (by decide) (fun c => absurd c (by decide)) (fun _ => ?_)
  refine a_iload_n dX11_feed_37 rfl rfl ?_
  refine a_goto 77 dX11_feed_38 (by decide) ?_
  refine a_istore dX11_feed_77 (Nat.le_of_ble_eq_true rfl) (lv2 := [(7, .int a), (6, .int 3), (0, .ref 89), (1, .int a), (2, .int b), (3, .int c), (4, .int d), (5, .int e)]) rfl ?_
  refine a_aload_n dX11_feed_79 rfl rfl ?_
  refine a_get (v := .ref 109) dX11_feed_80 fl_11_71 (cm_l h7 (by decide)) (cm_s h7 (by decide) rfl) (cm_g h7 rfl (by decide +kernel)) ?_
  refine a_aload_n dX11_feed_83 rfl rfl ?_
  refine a_get (v := .int 3) dX11_feed_84 fl_11_154 (cm_l h7 (by decide)) (cm_s h7 (by decide) rfl) (cm_gi h7 rfl (by decide) (by first | decide +kernel | rfl)) ?_
  refine a_iload dX11_feed_87 rfl ?_
  refine a_bipush (v := 24) dX11_feed_89 (by decide) ?_
  refine a_bipush (v := 8) dX11_feed_91 (by decide) ?_
  refine a_iload dX11_feed_93 rfl ?_
  refine a_iconst (v := 4) dX11_feed_95 (by decide) ?_
  refine a_irem dX11_feed_96 (by decide) ?_
  refine a_st (st2 := [.int 3, .int 8, .int 24, .int a, .int 3, .ref 109]) (by first | decide +kernel | (refine congrArg (fun z => Value.int z :: [.int 8, .int 24, .int a, .int 3, .ref 109]) ?_; decide +kernel) | (refine congrArg (fun z => Value.long z :: [.int 8, .int 24, .int a, .int 3, .ref 109]) ?_; decide +kernel)) ?_
  refine a_imul dX11_feed_97 ?_
  refine a_st (st2 := [.int 24, .int 24, .int a, .int 3, .ref 109]) (by first | decide +kernel | (refine congrArg (fun z => Value.int z :: [.int 24, .int a, .int 3, .ref 109]) ?_; decide +kernel) | (refine congrArg (fun z => Value.long z :: [.int 24, .int a, .int 3, .ref 109]) ?_; decide +kernel)) ?_
  refine a_isub dX11_feed_98 ?_
  refine a_st (st2 := [.int 0, .int a, .int 3, .ref 109]) (by first | decide +kernel | (refine congrArg (fun z => Value.int z :: [.int a, .int 3, .ref 109]) ?_; decide +kernel) | (refine congrArg (fun z => Value.long z :: [.int a, .int 3, .ref 109]) ?_; decide +kernel)) ?_
  refine a_ishr dX11_feed_99 ?_
  refine a_i2b dX11_feed_100 ?_
  refine a_bastore0 dX11_feed_101 (cm_l h7 (by decide)) (cm_s h7 (by decide) rfl) (by unfold vp_in; decide +kernel) ?_
  rw [show Int32.toNatClampNeg 3 = 3 from by decide +kernel]
  have h8 : Cm (up2 (up2 (up2 (up2 (up2 (up2 (up2 (up2 fs42 89 0 0) 109 0 ((Int32.toInt8 ((Int32.toInt8 (a >>> (24 &&& 31))).toInt32)).toInt32)) 89 27 1) 109 1 ((Int32.toInt8 ((Int32.toInt8 (a >>> (16 &&& 31))).toInt32)).toInt32)) 89 27 2) 109 2 ((Int32.toInt8 ((Int32.toInt8 (a >>> (8 &&& 31))).toInt32)).toInt32)) 89 27 3) 109 3 ((Int32.toInt8 ((Int32.toInt8 (a >>> (0 &&& 31))).toInt32)).toInt32)) (wI M7 109 3 ((Int32.toInt8 ((Int32.toInt8 (a >>> (0 &&& 31))).toInt32)).toInt32)) := cm_I h7 (by decide)
  generalize (wI M7 109 3 ((Int32.toInt8 ((Int32.toInt8 (a >>> (0 &&& 31))).toInt32)).toInt32)) = M8 at h8 ⊢
  refine a_aload_n dX11_feed_102 rfl rfl ?_
  refine a_dup dX11_feed_103 rfl ?_
  refine a_get (v := .int 3) dX11_feed_104 fl_11_154 (cm_l h8 (by decide)) (cm_s h8 (by decide) rfl) (cm_gi h8 rfl (by decide) (by first | decide +kernel | rfl)) ?_
  refine a_iconst (v := 1) dX11_feed_107 (by decide) ?_
  refine a_iadd dX11_feed_108 ?_
  refine a_st (st2 := [.int 4, .ref 89]) (by first | decide +kernel | (refine congrArg (fun z => Value.int z :: [.ref 89]) ?_; decide +kernel) | (refine congrArg (fun z => Value.long z :: [.ref 89]) ?_; decide +kernel)) ?_
  refine a_putI dX11_feed_109 (Or.inl ⟨fl_11_154, Or.inl rfl⟩) rfl (cm_l h8 (by decide)) (cm_s h8 (by decide) rfl) rfl rfl ?_
  have h9 : Cm (up2 (up2 (up2 (up2 (up2 (up2 (up2 (up2 (up2 fs42 89 0 0) 109 0 ((Int32.toInt8 ((Int32.toInt8 (a >>> (24 &&& 31))).toInt32)).toInt32)) 89 27 1) 109 1 ((Int32.toInt8 ((Int32.toInt8 (a >>> (16 &&& 31))).toInt32)).toInt32)) 89 27 2) 109 2 ((Int32.toInt8 ((Int32.toInt8 (a >>> (8 &&& 31))).toInt32)).toInt32)) 89 27 3) 109 3 ((Int32.toInt8 ((Int32.toInt8 (a >>> (0 &&& 31))).toInt32)).toInt32)) 89 27 4) (wI M8 89 27 4) := cm_I h8 (by decide)
  generalize (wI M8 89 27 4) = M9 at h9 ⊢
  refine a_iinc (v := 4) dX11_feed_112 rfl (by decide) (Nat.le_of_ble_eq_true rfl) (lv2 := [(6, .int 4), (7, .int a), (0, .ref 89), (1, .int a), (2, .int b), (3, .int c), (4, .int d), (5, .int e)]) rfl ?_
  refine a_goto 24 dX11_feed_115 (by decide) ?_
  refine a_iload dX11_feed_24 rfl ?_
  refine a_bipush (v := 20) dX11_feed_26 (by decide) ?_
  refine a_icmp_ge 118 dX11_feed_28 (by decide) (fun c => absurd c (by decide)) (fun _ => ?_)
  refine a_iload dX11_feed_31 rfl ?_
  refine a_iconst (v := 4) dX11_feed_33 (by decide) ?_
  refine a_icmp_ge 41 dX11_feed_34 (by decide) (fun _ => ?_) (fun c => absurd (by decide) c)
  refine a_iload dX11_feed_41 rfl ?_
  refine a_bipush (v := 8) dX11_feed_43 (by decide) ?_
  refine a_icmp_ge 52 dX11_feed_45 (by decide) (fun c => absurd c (by decide)) (fun _ => ?_)
  refine a_iload_n dX11_feed_48 rfl rfl ?_
  refine a_goto 77 dX11_feed_49 (by decide) ?_
  refine a_istore dX11_feed_77 (Nat.le_of_ble_eq_true rfl) (lv2 := [(7, .int b), (6, .int 4), (0, .ref 89), (1, .int a), (2, .int b), (3, .int c), (4, .int d), (5, .int e)]) rfl ?_
  refine a_aload_n dX11_feed_79 rfl rfl ?_
  refine a_get (v := .ref 109) dX11_feed_80 fl_11_71 (cm_l h9 (by decide)) (cm_s h9 (by decide) rfl) (cm_g h9 rfl (by decide +kernel)) ?_
  refine a_aload_n dX11_feed_83 rfl rfl ?_
  refine a_get (v := .int 4) dX11_feed_84 fl_11_154 (cm_l h9 (by decide)) (cm_s h9 (by decide) rfl) (cm_gi h9 rfl (by decide) (by first | decide +kernel | rfl)) ?_
  refine a_iload dX11_feed_87 rfl ?_
  refine a_bipush (v := 24) dX11_feed_89 (by decide) ?_
  refine a_bipush (v := 8) dX11_feed_91 (by decide) ?_
  refine a_iload dX11_feed_93 rfl ?_
  refine a_iconst (v := 4) dX11_feed_95 (by decide) ?_
  refine a_irem dX11_feed_96 (by decide) ?_
  refine a_st (st2 := [.int 0, .int 8, .int 24, .int b, .int 4, .ref 109]) (by first | decide +kernel | (refine congrArg (fun z => Value.int z :: [.int 8, .int 24, .int b, .int 4, .ref 109]) ?_; decide +kernel) | (refine congrArg (fun z => Value.long z :: [.int 8, .int 24, .int b, .int 4, .ref 109]) ?_; decide +kernel)) ?_
  refine a_imul dX11_feed_97 ?_
  refine a_st (st2 := [.int 0, .int 24, .int b, .int 4, .ref 109]) (by first | decide +kernel | (refine congrArg (fun z => Value.int z :: [.int 24, .int b, .int 4, .ref 109]) ?_; decide +kernel) | (refine congrArg (fun z => Value.long z :: [.int 24, .int b, .int 4, .ref 109]) ?_; decide +kernel)) ?_
  refine a_isub dX11_feed_98 ?_
  refine a_st (st2 := [.int 24, .int b, .int 4, .ref 109]) (by first | decide +kernel | (refine congrArg (fun z => Value.int z :: [.int b, .int 4, .ref 109]) ?_; decide +kernel) | (refine congrArg (fun z => Value.long z :: [.int b, .int 4, .ref 109]) ?_; decide +kernel)) ?_
  refine a_ishr dX11_feed_99 ?_
  refine a_i2b dX11_feed_100 ?_
  refine a_bastore0 dX11_feed_101 (cm_l h9 (by decide)) (cm_s h9 (by decide) rfl) (by unfold vp_in; decide +kernel) ?_
  rw [show Int32.toNatClampNeg 4 = 4 from by decide +kernel]
  have h10 : Cm (up2 (up2 (up2 (up2 (up2 (up2 (up2 (up2 (up2 (up2 fs42 89 0 0) 109 0 ((Int32.toInt8 ((Int32.toInt8 (a >>> (24 &&& 31))).toInt32)).toInt32)) 89 27 1) 109 1 ((Int32.toInt8 ((Int32.toInt8 (a >>> (16 &&& 31))).toInt32)).toInt32)) 89 27 2) 109 2 ((Int32.toInt8 ((Int32.toInt8 (a >>> (8 &&& 31))).toInt32)).toInt32)) 89 27 3) 109 3 ((Int32.toInt8 ((Int32.toInt8 (a >>> (0 &&& 31))).toInt32)).toInt32)) 89 27 4) 109 4 ((Int32.toInt8 ((Int32.toInt8 (b >>> (24 &&& 31))).toInt32)).toInt32)) (wI M9 109 4 ((Int32.toInt8 ((Int32.toInt8 (b >>> (24 &&& 31))).toInt32)).toInt32)) := cm_I h9 (by decide)
  generalize (wI M9 109 4 ((Int32.toInt8 ((Int32.toInt8 (b >>> (24 &&& 31))).toInt32)).toInt32)) = M10 at h10 ⊢
  refine a_aload_n dX11_feed_102 rfl rfl ?_
  refine a_dup dX11_feed_103 rfl ?_
  refine a_get (v := .int 4) dX11_feed_104 fl_11_154 (cm_l h10 (by decide)) (cm_s h10 (by decide) rfl) (cm_gi h10 rfl (by decide) (by first | decide +kernel | rfl)) ?_
  refine a_iconst (v := 1) dX11_feed_107 (by decide) ?_
  refine a_iadd dX11_feed_108 ?_
  refine a_st (st2 := [.int 5, .ref 89]) (by first | decide +kernel | (refine congrArg (fun z => Value.int z :: [.ref 89]) ?_; decide +kernel) | (refine congrArg (fun z => Value.long z :: [.ref 89]) ?_; decide +kernel)) ?_
  refine a_putI dX11_feed_109 (Or.inl ⟨fl_11_154, Or.inl rfl⟩) rfl (cm_l h10 (by decide)) (cm_s h10 (by decide) rfl) rfl rfl ?_
  have h11 : Cm (up2 (up2 (up2 (up2 (up2 (up2 (up2 (up2 (up2 (up2 (up2 fs42 89 0 0) 109 0 ((Int32.toInt8 ((Int32.toInt8 (a >>> (24 &&& 31))).toInt32)).toInt32)) 89 27 1) 109 1 ((Int32.toInt8 ((Int32.toInt8 (a >>> (16 &&& 31))).toInt32)).toInt32)) 89 27 2) 109 2 ((Int32.toInt8 ((Int32.toInt8 (a >>> (8 &&& 31))).toInt32)).toInt32)) 89 27 3) 109 3 ((Int32.toInt8 ((Int32.toInt8 (a >>> (0 &&& 31))).toInt32)).toInt32)) 89 27 4) 109 4 ((Int32.toInt8 ((Int32.toInt8 (b >>> (24 &&& 31))).toInt32)).toInt32)) 89 27 5) (wI M10 89 27 5) := cm_I h10 (by decide)
  generalize (wI M10 89 27 5) = M11 at h11 ⊢
  refine a_iinc (v := 5) dX11_feed_112 rfl (by decide) (Nat.le_of_ble_eq_true rfl) (lv2 := [(6, .int 5), (7, .int b), (0, .ref 89), (1, .int a), (2, .int b), (3, .int c), (4, .int d), (5, .int e)]) rfl ?_
  refine a_goto 24 dX11_feed_115 (by decide) ?_
  refine a_iload dX11_feed_24 rfl ?_
  refine a_bipush (v := 20) dX11_feed_26 (by decide) ?_
  refine a_icmp_ge 118 dX11_feed_28 (by decide) (fun c => absurd c (by decide)) (fun _ => ?_)
  refine a_iload dX11_feed_31 rfl ?_
  refine a_iconst (v := 4) dX11_feed_33 (by decide) ?_
  refine a_icmp_ge 41 dX11_feed_34 (by decide) (fun _ => ?_) (fun c => absurd (by decide) c)
  refine a_iload dX11_feed_41 rfl ?_
  refine a_bipush (v := 8) dX11_feed_43 (by decide) ?_
  refine a_icmp_ge 52 dX11_feed_45 (by decide) (fun c => absurd c (by decide)) (fun _ => ?_)
  refine a_iload_n dX11_feed_48 rfl rfl ?_
  refine a_goto 77 dX11_feed_49 (by decide) ?_
  refine a_istore dX11_feed_77 (Nat.le_of_ble_eq_true rfl) (lv2 := [(7, .int b), (6, .int 5), (0, .ref 89), (1, .int a), (2, .int b), (3, .int c), (4, .int d), (5, .int e)]) rfl ?_
  refine a_aload_n dX11_feed_79 rfl rfl ?_
  refine a_get (v := .ref 109) dX11_feed_80 fl_11_71 (cm_l h11 (by decide)) (cm_s h11 (by decide) rfl) (cm_g h11 rfl (by decide +kernel)) ?_
  refine a_aload_n dX11_feed_83 rfl rfl ?_
  refine a_get (v := .int 5) dX11_feed_84 fl_11_154 (cm_l h11 (by decide)) (cm_s h11 (by decide) rfl) (cm_gi h11 rfl (by decide) (by first | decide +kernel | rfl)) ?_
  refine a_iload dX11_feed_87 rfl ?_
  refine a_bipush (v := 24) dX11_feed_89 (by decide) ?_
  refine a_bipush (v := 8) dX11_feed_91 (by decide) ?_
  refine a_iload dX11_feed_93 rfl ?_
  refine a_iconst (v := 4) dX11_feed_95 (by decide) ?_
  refine a_irem dX11_feed_96 (by decide) ?_
  refine a_st (st2 := [.int 1, .int 8, .int 24, .int b, .int 5, .ref 109]) (by first | decide +kernel | (refine congrArg (fun z => Value.int z :: [.int 8, .int 24, .int b, .int 5, .ref 109]) ?_; decide +kernel) | (refine congrArg (fun z => Value.long z :: [.int 8, .int 24, .int b, .int 5, .ref 109]) ?_; decide +kernel)) ?_
  refine a_imul dX11_feed_97 ?_
  refine a_st (st2 := [.int 8, .int 24, .int b, .int 5, .ref 109]) (by first | decide +kernel | (refine congrArg (fun z => Value.int z :: [.int 24, .int b, .int 5, .ref 109]) ?_; decide +kernel) | (refine congrArg (fun z => Value.long z :: [.int 24, .int b, .int 5, .ref 109]) ?_; decide +kernel)) ?_
  refine a_isub dX11_feed_98 ?_
  refine a_st (st2 := [.int 16, .int b, .int 5, .ref 109]) (by first | decide +kernel | (refine congrArg (fun z => Value.int z :: [.int b, .int 5, .ref 109]) ?_; decide +kernel) | (refine congrArg (fun z => Value.long z :: [.int b, .int 5, .ref 109]) ?_; decide +kernel)) ?_
  refine a_ishr dX11_feed_99 ?_
  refine a_i2b dX11_feed_100 ?_
  refine a_bastore0 dX11_feed_101 (cm_l h11 (by decide)) (cm_s h11 (by decide) rfl) (by unfold vp_in; decide +kernel) ?_
  rw [show Int32.toNatClampNeg 5 = 5 from by decide +kernel]
  have h12 : Cm (up2 (up2 (up2 (up2 (up2 (up2 (up2 (up2 (up2 (up2 (up2 (up2 fs42 89 0 0) 109 0 ((Int32.toInt8 ((Int32.toInt8 (a >>> (24 &&& 31))).toInt32)).toInt32)) 89 27 1) 109 1 ((Int32.toInt8 ((Int32.toInt8 (a >>> (16 &&& 31))).toInt32)).toInt32)) 89 27 2) 109 2 ((Int32.toInt8 ((Int32.toInt8 (a >>> (8 &&& 31))).toInt32)).toInt32)) 89 27 3) 109 3 ((Int32.toInt8 ((Int32.toInt8 (a >>> (0 &&& 31))).toInt32)).toInt32)) 89 27 4) 109 4 ((Int32.toInt8 ((Int32.toInt8 (b >>> (24 &&& 31))).toInt32)).toInt32)) 89 27 5) 109 5 ((Int32.toInt8 ((Int32.toInt8 (b >>> (16 &&& 31))).toInt32)).toInt32)) (wI M11 109 5 ((Int32.toInt8 ((Int32.toInt8 (b >>> (16 &&& 31))).toInt32)).toInt32)) := cm_I h11 (by decide)
  generalize (wI M11 109 5 ((Int32.toInt8 ((Int32.toInt8 (b >>> (16 &&& 31))).toInt32)).toInt32)) = M12 at h12 ⊢
  refine a_aload_n dX11_feed_102 rfl rfl ?_
  refine a_dup dX11_feed_103 rfl ?_
  refine a_get (v := .int 5) dX11_feed_104 fl_11_154 (cm_l h12 (by decide)) (cm_s h12 (by decide) rfl) (cm_gi h12 rfl (by decide) (by first | decide +kernel | rfl)) ?_
  refine a_iconst (v := 1) dX11_feed_107 (by decide) ?_
  refine a_iadd dX11_feed_108 ?_
  refine a_st (st2 := [.int 6, .ref 89]) (by first | decide +kernel | (refine congrArg (fun z => Value.int z :: [.ref 89]) ?_; decide +kernel) | (refine congrArg (fun z => Value.long z :: [.ref 89]) ?_; decide +kernel)) ?_
  refine a_putI dX11_feed_109 (Or.inl ⟨fl_11_154, Or.inl rfl⟩) rfl (cm_l h12 (by decide)) (cm_s h12 (by decide) rfl) rfl rfl ?_
  have h13 : Cm (up2 (up2 (up2 (up2 (up2 (up2 (up2 (up2 (up2 (up2 (up2 (up2 (up2 fs42 89 0 0) 109 0 ((Int32.toInt8 ((Int32.toInt8 (a >>> (24 &&& 31))).toInt32)).toInt32)) 89 27 1) 109 1 ((Int32.toInt8 ((Int32.toInt8 (a >>> (16 &&& 31))).toInt32)).toInt32)) 89 27 2) 109 2 ((Int32.toInt8 ((Int32.toInt8 (a >>> (8 &&& 31))).toInt32)).toInt32)) 89 27 3) 109 3 ((Int32.toInt8 ((Int32.toInt8 (a >>> (0 &&& 31))).toInt32)).toInt32)) 89 27 4) 109 4 ((Int32.toInt8 ((Int32.toInt8 (b >>> (24 &&& 31))).toInt32)).toInt32)) 89 27 5) 109 5 ((Int32.toInt8 ((Int32.toInt8 (b >>> (16 &&& 31))).toInt32)).toInt32)) 89 27 6) (wI M12 89 27 6) := cm_I h12 (by decide)
  generalize (wI M12 89 27 6) = M13 at h13 ⊢
  refine a_iinc (v := 6) dX11_feed_112 rfl (by decide) (Nat.le_of_ble_eq_true rfl) (lv2 := [(6, .int 6), (7, .int b), (0, .ref 89), (1, .int a), (2, .int b), (3, .int c), (4, .int d), (5, .int e)]) rfl ?_
  refine a_goto 24 dX11_feed_115 (by decide) ?_
  refine a_iload dX11_feed_24 rfl ?_
  refine a_bipush (v := 20) dX11_feed_26 (by decide) ?_
  refine a_icmp_ge 118 dX11_feed_28 (by decide) (fun c => absurd c (by decide)) (fun _ => ?_)
  refine a_iload dX11_feed_31 rfl ?_
  refine a_iconst (v := 4) dX11_feed_33 (by decide) ?_
  refine a_icmp_ge 41 dX11_feed_34 (by decide) (fun _ => ?_) (fun c => absurd (by decide) c)
  refine a_iload dX11_feed_41 rfl ?_
  refine a_bipush (v := 8) dX11_feed_43 (by decide) ?_
  refine a_icmp_ge 52 dX11_feed_45 (by decide) (fun c => absurd c (by decide)) (fun _ => ?_)
  refine a_iload_n dX11_feed_48 rfl rfl ?_
  refine a_goto 77 dX11_feed_49 (by decide) ?_
  refine a_istore dX11_feed_77 (Nat.le_of_ble_eq_true rfl) (lv2 := [(7, .int b), (6, .int 6), (0, .ref 89), (1, .int a), (2, .int b), (3, .int c), (4, .int d), (5, .int e)]) rfl ?_
  refine a_aload_n dX11_feed_79 rfl rfl ?_
  refine a_get (v := .ref 109) dX11_feed_80 fl_11_71 (cm_l h13 (by decide)) (cm_s h13 (by decide) rfl) (cm_g h13 rfl (by decide +kernel)) ?_
  refine a_aload_n dX11_feed_83 rfl rfl ?_
  refine a_get (v := .int 6) dX11_feed_84 fl_11_154 (cm_l h13 (by decide)) (cm_s h13 (by decide) rfl) (cm_gi h13 rfl (by decide) (by first | decide +kernel | rfl)) ?_
  refine a_iload dX11_feed_87 rfl ?_
  refine a_bipush (v := 24) dX11_feed_89 (by decide) ?_
  refine a_bipush (v := 8) dX11_feed_91 (by decide) ?_
  refine a_iload dX11_feed_93 rfl ?_
  refine a_iconst (v := 4) dX11_feed_95 (by decide) ?_
  refine a_irem dX11_feed_96 (by decide) ?_
  refine a_st (st2 := [.int 2, .int 8, .int 24, .int b, .int 6, .ref 109]) (by first | decide +kernel | (refine congrArg (fun z => Value.int z :: [.int 8, .int 24, .int b, .int 6, .ref 109]) ?_; decide +kernel) | (refine congrArg (fun z => Value.long z :: [.int 8, .int 24, .int b, .int 6, .ref 109]) ?_; decide +kernel)) ?_
  refine a_imul dX11_feed_97 ?_
  refine a_st (st2 := [.int 16, .int 24, .int b, .int 6, .ref 109]) (by first | decide +kernel | (refine congrArg (fun z => Value.int z :: [.int 24, .int b, .int 6, .ref 109]) ?_; decide +kernel) | (refine congrArg (fun z => Value.long z :: [.int 24, .int b, .int 6, .ref 109]) ?_; decide +kernel)) ?_
  refine a_isub dX11_feed_98 ?_
  refine a_st (st2 := [.int 8, .int b, .int 6, .ref 109]) (by first | decide +kernel | (refine congrArg (fun z => Value.int z :: [.int b, .int 6, .ref 109]) ?_; decide +kernel) | (refine congrArg (fun z => Value.long z :: [.int b, .int 6, .ref 109]) ?_; decide +kernel)) ?_
  refine a_ishr dX11_feed_99 ?_
  refine a_i2b dX11_feed_100 ?_
  refine a_bastore0 dX11_feed_101 (cm_l h13 (by decide)) (cm_s h13 (by decide) rfl) (by unfold vp_in; decide +kernel) ?_
  rw [show Int32.toNatClampNeg 6 = 6 from by decide +kernel]
  have h14 : Cm (up2 (up2 (up2 (up2 (up2 (up2 (up2 (up2 (up2 (up2 (up2 (up2 (up2 (up2 fs42 89 0 0) 109 0 ((Int32.toInt8 ((Int32.toInt8 (a >>> (24 &&& 31))).toInt32)).toInt32)) 89 27 1) 109 1 ((Int32.toInt8 ((Int32.toInt8 (a >>> (16 &&& 31))).toInt32)).toInt32)) 89 27 2) 109 2 ((Int32.toInt8 ((Int32.toInt8 (a >>> (8 &&& 31))).toInt32)).toInt32)) 89 27 3) 109 3 ((Int32.toInt8 ((Int32.toInt8 (a >>> (0 &&& 31))).toInt32)).toInt32)) 89 27 4) 109 4 ((Int32.toInt8 ((Int32.toInt8 (b >>> (24 &&& 31))).toInt32)).toInt32)) 89 27 5) 109 5 ((Int32.toInt8 ((Int32.toInt8 (b >>> (16 &&& 31))).toInt32)).toInt32)) 89 27 6) 109 6 ((Int32.toInt8 ((Int32.toInt8 (b >>> (8 &&& 31))).toInt32)).toInt32)) (wI M13 109 6 ((Int32.toInt8 ((Int32.toInt8 (b >>> (8 &&& 31))).toInt32)).toInt32)) := cm_I h13 (by decide)
  generalize (wI M13 109 6 ((Int32.toInt8 ((Int32.toInt8 (b >>> (8 &&& 31))).toInt32)).toInt32)) = M14 at h14 ⊢
  refine a_aload_n dX11_feed_102 rfl rfl ?_
  refine a_dup dX11_feed_103 rfl ?_
  refine a_get (v := .int 6) dX11_feed_104 fl_11_154 (cm_l h14 (by decide)) (cm_s h14 (by decide) rfl) (cm_gi h14 rfl (by decide) (by first | decide +kernel | rfl)) ?_
  refine a_iconst (v := 1) dX11_feed_107 (by decide) ?_
  refine a_iadd dX11_feed_108 ?_
  refine a_st (st2 := [.int 7, .ref 89]) (by first | decide +kernel | (refine congrArg (fun z => Value.int z :: [.ref 89]) ?_; decide +kernel) | (refine congrArg (fun z => Value.long z :: [.ref 89]) ?_; decide +kernel)) ?_
  refine a_putI dX11_feed_109 (Or.inl ⟨fl_11_154, Or.inl rfl⟩) rfl (cm_l h14 (by decide)) (cm_s h14 (by decide) rfl) rfl rfl ?_
  have h15 : Cm (up2 (up2 (up2 (up2 (up2 (up2 (up2 (up2 (up2 (up2 (up2 (up2 (up2 (up2 (up2 fs42 89 0 0) 109 0 ((Int32.toInt8 ((Int32.toInt8 (a >>> (24 &&& 31))).toInt32)).toInt32)) 89 27 1) 109 1 ((Int32.toInt8 ((Int32.toInt8 (a >>> (16 &&& 31))).toInt32)).toInt32)) 89 27 2) 109 2 ((Int32.toInt8 ((Int32.toInt8 (a >>> (8 &&& 31))).toInt32)).toInt32)) 89 27 3) 109 3 ((Int32.toInt8 ((Int32.toInt8 (a >>> (0 &&& 31))).toInt32)).toInt32)) 89 27 4) 109 4 ((Int32.toInt8 ((Int32.toInt8 (b >>> (24 &&& 31))).toInt32)).toInt32)) 89 27 5) 109 5 ((Int32.toInt8 ((Int32.toInt8 (b >>> (16 &&& 31))).toInt32)).toInt32)) 89 27 6) 109 6 ((Int32.toInt8 ((Int32.toInt8 (b >>> (8 &&& 31))).toInt32)).toInt32)) 89 27 7) (wI M14 89 27 7) := cm_I h14 (by decide)
  generalize (wI M14 89 27 7) = M15 at h15 ⊢
  refine a_iinc (v := 7) dX11_feed_112 rfl (by decide) (Nat.le_of_ble_eq_true rfl) (lv2 := [(6, .int 7), (7, .int b), (0, .ref 89), (1, .int a), (2, .int b), (3, .int c), (4, .int d), (5, .int e)]) rfl ?_
  refine a_goto 24 dX11_feed_115 (by decide) ?_
  refine a_iload dX11_feed_24 rfl ?_
  refine a_bipush (v := 20) dX11_feed_26 (by decide) ?_
  refine a_icmp_ge 118 dX11_feed_28 (by decide) (fun c => absurd c (by decide)) (fun _ => ?_)
  refine a_iload dX11_feed_31 rfl ?_
  refine a_iconst (v := 4) dX11_feed_33 (by decide) ?_
  refine a_icmp_ge 41 dX11_feed_34 (by decide) (fun _ => ?_) (fun c => absurd (by decide) c)
  refine a_iload dX11_feed_41 rfl ?_
  refine a_bipush (v := 8) dX11_feed_43 (by decide) ?_
  refine a_icmp_ge 52 dX11_feed_45 (by decide) (fun c => absurd c (by decide)) (fun _ => ?_)
  refine a_iload_n dX11_feed_48 rfl rfl ?_
  refine a_goto 77 dX11_feed_49 (by decide) ?_
  refine a_istore dX11_feed_77 (Nat.le_of_ble_eq_true rfl) (lv2 := [(7, .int b), (6, .int 7), (0, .ref 89), (1, .int a), (2, .int b), (3, .int c), (4, .int d), (5, .int e)]) rfl ?_
  refine a_aload_n dX11_feed_79 rfl rfl ?_
  refine a_get (v := .ref 109) dX11_feed_80 fl_11_71 (cm_l h15 (by decide)) (cm_s h15 (by decide) rfl) (cm_g h15 rfl (by decide +kernel)) ?_
  refine a_aload_n dX11_feed_83 rfl rfl ?_
  refine a_get (v := .int 7) dX11_feed_84 fl_11_154 (cm_l h15 (by decide)) (cm_s h15 (by decide) rfl) (cm_gi h15 rfl (by decide) (by first | decide +kernel | rfl)) ?_
  refine a_iload dX11_feed_87 rfl ?_
  refine a_bipush (v := 24) dX11_feed_89 (by decide) ?_
  refine a_bipush (v := 8) dX11_feed_91 (by decide) ?_
  refine a_iload dX11_feed_93 rfl ?_
  refine a_iconst (v := 4) dX11_feed_95 (by decide) ?_
  refine a_irem dX11_feed_96 (by decide) ?_
  refine a_st (st2 := [.int 3, .int 8, .int 24, .int b, .int 7, .ref 109]) (by first | decide +kernel | (refine congrArg (fun z => Value.int z :: [.int 8, .int 24, .int b, .int 7, .ref 109]) ?_; decide +kernel) | (refine congrArg (fun z => Value.long z :: [.int 8, .int 24, .int b, .int 7, .ref 109]) ?_; decide +kernel)) ?_
  refine a_imul dX11_feed_97 ?_
  refine a_st (st2 := [.int 24, .int 24, .int b, .int 7, .ref 109]) (by first | decide +kernel | (refine congrArg (fun z => Value.int z :: [.int 24, .int b, .int 7, .ref 109]) ?_; decide +kernel) | (refine congrArg (fun z => Value.long z :: [.int 24, .int b, .int 7, .ref 109]) ?_; decide +kernel)) ?_
  refine a_isub dX11_feed_98 ?_
  refine a_st (st2 := [.int 0, .int b, .int 7, .ref 109]) (by first | decide +kernel | (refine congrArg (fun z => Value.int z :: [.int b, .int 7, .ref 109]) ?_; decide +kernel) | (refine congrArg (fun z => Value.long z :: [.int b, .int 7, .ref 109]) ?_; decide +kernel)) ?_
  refine a_ishr dX11_feed_99 ?_
  refine a_i2b dX11_feed_100 ?_
  refine a_bastore0 dX11_feed_101 (cm_l h15 (by decide)) (cm_s h15 (by decide) rfl) (by unfold vp_in; decide +kernel) ?_
  rw [show Int32.toNatClampNeg 7 = 7 from by decide +kernel]
  have h16 : Cm (up2 (up2 (up2 (up2 (up2 (up2 (up2 (up2 (up2 (up2 (up2 (up2 (up2 (up2 (up2 (up2 fs42 89 0 0) 109 0 ((Int32.toInt8 ((Int32.toInt8 (a >>> (24 &&& 31))).toInt32)).toInt32)) 89 27 1) 109 1 ((Int32.toInt8 ((Int32.toInt8 (a >>> (16 &&& 31))).toInt32)).toInt32)) 89 27 2) 109 2 ((Int32.toInt8 ((Int32.toInt8 (a >>> (8 &&& 31))).toInt32)).toInt32)) 89 27 3) 109 3 ((Int32.toInt8 ((Int32.toInt8 (a >>> (0 &&& 31))).toInt32)).toInt32)) 89 27 4) 109 4 ((Int32.toInt8 ((Int32.toInt8 (b >>> (24 &&& 31))).toInt32)).toInt32)) 89 27 5) 109 5 ((Int32.toInt8 ((Int32.toInt8 (b >>> (16 &&& 31))).toInt32)).toInt32)) 89 27 6) 109 6 ((Int32.toInt8 ((Int32.toInt8 (b >>> (8 &&& 31))).toInt32)).toInt32)) 89 27 7) 109 7 ((Int32.toInt8 ((Int32.toInt8 (b >>> (0 &&& 31))).toInt32)).toInt32)) (wI M15 109 7 ((Int32.toInt8 ((Int32.toInt8 (b >>> (0 &&& 31))).toInt32)).toInt32)) := cm_I h15 (by decide)
  generalize (wI M15 109 7 ((Int32.toInt8 ((Int32.toInt8 (b >>> (0 &&& 31))).toInt32)).toInt32)) = M16 at h16 ⊢
  refine a_aload_n dX11_feed_102 rfl rfl ?_
  refine a_dup dX11_feed_103 rfl ?_
  refine a_get (v := .int 7) dX11_feed_104 fl_11_154 (cm_l h16 (by decide)) (cm_s h16 (by decide) rfl) (cm_gi h16 rfl (by decide) (by first | decide +kernel | rfl)) ?_
  refine a_iconst (v := 1) dX11_feed_107 (by decide) ?_
  refine a_iadd dX11_feed_108 ?_
  refine a_st (st2 := [.int 8, .ref 89]) (by first | decide +kernel | (refine congrArg (fun z => Value.int z :: [.ref 89]) ?_; decide +kernel) | (refine congrArg (fun z => Value.long z :: [.ref 89]) ?_; decide +kernel)) ?_
  refine a_putI dX11_feed_109 (Or.inl ⟨fl_11_154, Or.inl rfl⟩) rfl (cm_l h16 (by decide)) (cm_s h16 (by decide) rfl) rfl rfl ?_
  have h17 : Cm (up2 (up2 (up2 (up2 (up2 (up2 (up2 (up2 (up2 (up2 (up2 (up2 (up2 (up2 (up2 (up2 (up2 fs42 89 0 0) 109 0 ((Int32.toInt8 ((Int32.toInt8 (a >>> (24 &&& 31))).toInt32)).toInt32)) 89 27 1) 109 1 ((Int32.toInt8 ((Int32.toInt8 (a >>> (16 &&& 31))).toInt32)).toInt32)) 89 27 2) 109 2 ((Int32.toInt8 ((Int32.toInt8 (a >>> (8 &&& 31))).toInt32)).toInt32)) 89 27 3) 109 3 ((Int32.toInt8 ((Int32.toInt8 (a >>> (0 &&& 31))).toInt32)).toInt32)) 89 27 4) 109 4 ((Int32.toInt8 ((Int32.toInt8 (b >>> (24 &&& 31))).toInt32)).toInt32)) 89 27 5) 109 5 ((Int32.toInt8 ((Int32.toInt8 (b >>> (16 &&& 31))).toInt32)).toInt32)) 89 27 6) 109 6 ((Int32.toInt8 ((Int32.toInt8 (b >>> (8 &&& 31))).toInt32)).toInt32)) 89 27 7) 109 7 ((Int32.toInt8 ((Int32.toInt8 (b >>> (0 &&& 31))).toInt32)).toInt32)) 89 27 8) (wI M16 89 27 8) := cm_I h16 (by decide)
  generalize (wI M16 89 27 8) = M17 at h17 ⊢
  refine a_iinc (v := 8) dX11_feed_112 rfl (by decide) (Nat.le_of_ble_eq_true rfl) (lv2 := [(6, .int 8), (7, .int b), (0, .ref 89), (1, .int a), (2, .int b), (3, .int c), (4, .int d), (5, .int e)]) rfl ?_
  refine a_goto 24 dX11_feed_115 (by decide) ?_
  refine a_iload dX11_feed_24 rfl ?_
  refine a_bipush (v := 20) dX11_feed_26 (by decide) ?_
  refine a_icmp_ge 118 dX11_feed_28 (by decide) (fun c => absurd c (by decide)) (fun _ => ?_)
  refine a_iload dX11_feed_31 rfl ?_
  refine a_iconst (v := 4) dX11_feed_33 (by decide) ?_
  refine a_icmp_ge 41 dX11_feed_34 (by decide) (fun _ => ?_) (fun c => absurd (by decide) c)
  refine a_iload dX11_feed_41 rfl ?_
  refine a_bipush (v := 8) dX11_feed_43 (by decide) ?_
  refine a_icmp_ge 52 dX11_feed_45 (by decide) (fun _ => ?_) (fun c => absurd (by decide) c)
  refine a_iload dX11_feed_52 rfl ?_
  refine a_bipush (v := 12) dX11_feed_54 (by decide) ?_
  refine a_icmp_ge 63 dX11_feed_56 (by decide) (fun c => absurd c (by decide)) (fun _ => ?_)
  refine a_iload_n dX11_feed_59 rfl rfl ?_
  refine a_goto 77 dX11_feed_60 (by decide) ?_
  refine a_istore dX11_feed_77 (Nat.le_of_ble_eq_true rfl) (lv2 := [(7, .int c), (6, .int 8), (0, .ref 89), (1, .int a), (2, .int b), (3, .int c), (4, .int d), (5, .int e)]) rfl ?_
  refine a_aload_n dX11_feed_79 rfl rfl ?_
  refine a_get (v := .ref 109) dX11_feed_80 fl_11_71 (cm_l h17 (by decide)) (cm_s h17 (by decide) rfl) (cm_g h17 rfl (by decide +kernel)) ?_
  refine a_aload_n dX11_feed_83 rfl rfl ?_
  refine a_get (v := .int 8) dX11_feed_84 fl_11_154 (cm_l h17 (by decide)) (cm_s h17 (by decide) rfl) (cm_gi h17 rfl (by decide) (by first | decide +kernel | rfl)) ?_
  refine a_iload dX11_feed_87 rfl ?_
  refine a_bipush (v := 24) dX11_feed_89 (by decide) ?_
  refine a_bipush (v := 8) dX11_feed_91 (by decide) ?_
  refine a_iload dX11_feed_93 rfl ?_
  refine a_iconst (v := 4) dX11_feed_95 (by decide) ?_
  refine a_irem dX11_feed_96 (by decide) ?_
  refine a_st (st2 := [.int 0, .int 8, .int 24, .int c, .int 8, .ref 109]) (by first | decide +kernel | (refine congrArg (fun z => Value.int z :: [.int 8, .int 24, .int c, .int 8, .ref 109]) ?_; decide +kernel) | (refine congrArg (fun z => Value.long z :: [.int 8, .int 24, .int c, .int 8, .ref 109]) ?_; decide +kernel)) ?_
  refine a_imul dX11_feed_97 ?_
  refine a_st (st2 := [.int 0, .int 24, .int c, .int 8, .ref 109]) (by first | decide +kernel | (refine congrArg (fun z => Value.int z :: [.int 24, .int c, .int 8, .ref 109]) ?_; decide +kernel) | (refine congrArg (fun z => Value.long z :: [.int 24, .int c, .int 8, .ref 109]) ?_; decide +kernel)) ?_
  refine a_isub dX11_feed_98 ?_
  refine a_st (st2 := [.int 24, .int c, .int 8, .ref 109]) (by first | decide +kernel | (refine congrArg (fun z => Value.int z :: [.int c, .int 8, .ref 109]) ?_; decide +kernel) | (refine congrArg (fun z => Value.long z :: [.int c, .int 8, .ref 109]) ?_; decide +kernel)) ?_
  refine a_ishr dX11_feed_99 ?_
  refine a_i2b dX11_feed_100 ?_
  refine a_bastore0 dX11_feed_101 (cm_l h17 (by decide)) (cm_s h17 (by decide) rfl) (by unfold vp_in; decide +kernel) ?_
  rw [show Int32.toNatClampNeg 8 = 8 from by decide +kernel]
  have h18 : Cm (up2 (up2 (up2 (up2 (up2 (up2 (up2 (up2 (up2 (up2 (up2 (up2 (up2 (up2 (up2 (up2 (up2 (up2 fs42 89 0 0) 109 0 ((Int32.toInt8 ((Int32.toInt8 (a >>> (24 &&& 31))).toInt32)).toInt32)) 89 27 1) 109 1 ((Int32.toInt8 ((Int32.toInt8 (a >>> (16 &&& 31))).toInt32)).toInt32)) 89 27 2) 109 2 ((Int32.toInt8 ((Int32.toInt8 (a >>> (8 &&& 31))).toInt32)).toInt32)) 89 27 3) 109 3 ((Int32.toInt8 ((Int32.toInt8 (a >>> (0 &&& 31))).toInt32)).toInt32)) 89 27 4) 109 4 ((Int32.toInt8 ((Int32.toInt8 (b >>> (24 &&& 31))).toInt32)).toInt32)) 89 27 5) 109 5 ((Int32.toInt8 ((Int32.toInt8 (b >>> (16 &&& 31))).toInt32)).toInt32)) 89 27 6) 109 6 ((Int32.toInt8 ((Int32.toInt8 (b >>> (8 &&& 31))).toInt32)).toInt32)) 89 27 7) 109 7 ((Int32.toInt8 ((Int32.toInt8 (b >>> (0 &&& 31))).toInt32)).toInt32)) 89 27 8) 109 8 ((Int32.toInt8 ((Int32.toInt8 (c >>> (24 &&& 31))).toInt32)).toInt32)) (wI M17 109 8 ((Int32.toInt8 ((Int32.toInt8 (c >>> (24 &&& 31))).toInt32)).toInt32)) := cm_I h17 (by decide)
  generalize (wI M17 109 8 ((Int32.toInt8 ((Int32.toInt8 (c >>> (24 &&& 31))).toInt32)).toInt32)) = M18 at h18 ⊢
  refine a_aload_n dX11_feed_102 rfl rfl ?_
  refine a_dup dX11_feed_103 rfl ?_
  refine a_get (v := .int 8) dX11_feed_104 fl_11_154 (cm_l h18 (by decide)) (cm_s h18 (by decide) rfl) (cm_gi h18 rfl (by decide) (by first | decide +kernel | rfl)) ?_
  refine a_iconst (v := 1) dX11_feed_107 (by decide) ?_
  refine a_iadd dX11_feed_108 ?_
  refine a_st (st2 := [.int 9, .ref 89]) (by first | decide +kernel | (refine congrArg (fun z => Value.int z :: [.ref 89]) ?_; decide +kernel) | (refine congrArg (fun z => Value.long z :: [.ref 89]) ?_; decide +kernel)) ?_
  refine a_putI dX11_feed_109 (Or.inl ⟨fl_11_154, Or.inl rfl⟩) rfl (cm_l h18 (by decide)) (cm_s h18 (by decide) rfl) rfl rfl ?_
  have h19 : Cm (up2 (up2 (up2 (up2 (up2 (up2 (up2 (up2 (up2 (up2 (up2 (up2 (up2 (up2 (up2 (up2 (up2 (up2 (up2 fs42 89 0 0) 109 0 ((Int32.toInt8 ((Int32.toInt8 (a >>> (24 &&& 31))).toInt32)).toInt32)) 89 27 1) 109 1 ((Int32.toInt8 ((Int32.toInt8 (a >>> (16 &&& 31))).toInt32)).toInt32)) 89 27 2) 109 2 ((Int32.toInt8 ((Int32.toInt8 (a >>> (8 &&& 31))).toInt32)).toInt32)) 89 27 3) 109 3 ((Int32.toInt8 ((Int32.toInt8 (a >>> (0 &&& 31))).toInt32)).toInt32)) 89 27 4) 109 4 ((Int32.toInt8 ((Int32.toInt8 (b >>> (24 &&& 31))).toInt32)).toInt32)) 89 27 5) 109 5 ((Int32.toInt8 ((Int32.toInt8 (b >>> (16 &&& 31))).toInt32)).toInt32)) 89 27 6) 109 6 ((Int32.toInt8 ((Int32.toInt8 (b >>> (8 &&& 31))).toInt32)).toInt32)) 89 27 7) 109 7 ((Int32.toInt8 ((Int32.toInt8 (b >>> (0 &&& 31))).toInt32)).toInt32)) 89 27 8) 109 8 ((Int32.toInt8 ((Int32.toInt8 (c >>> (24 &&& 31))).toInt32)).toInt32)) 89 27 9) (wI M18 89 27 9) := cm_I h18 (by decide)
  generalize (wI M18 89 27 9) = M19 at h19 ⊢
  refine a_iinc (v := 9) dX11_feed_112 rfl (by decide) (Nat.le_of_ble_eq_true rfl) (lv2 := [(6, .int 9), (7, .int c), (0, .ref 89), (1, .int a), (2, .int b), (3, .int c), (4, .int d), (5, .int e)]) rfl ?_
  refine a_goto 24 dX11_feed_115 (by decide) ?_
  refine a_iload dX11_feed_24 rfl ?_
  refine a_bipush (v := 20) dX11_feed_26 (by decide) ?_
  refine a_icmp_ge 118 dX11_feed_28 (by decide) (fun c => absurd c (by decide)) (fun _ => ?_)
  refine a_iload dX11_feed_31 rfl ?_
  refine a_iconst (v := 4) dX11_feed_33 (by decide) ?_
  refine a_icmp_ge 41 dX11_feed_34 (by decide) (fun _ => ?_) (fun c => absurd (by decide) c)
  refine a_iload dX11_feed_41 rfl ?_
  refine a_bipush (v := 8) dX11_feed_43 (by decide) ?_
  refine a_icmp_ge 52 dX11_feed_45 (by decide) (fun _ => ?_) (fun c => absurd (by decide) c)
  refine a_iload dX11_feed_52 rfl ?_
  refine a_bipush (v := 12) dX11_feed_54 (by decide) ?_
  refine a_icmp_ge 63 dX11_feed_56 (by decide) (fun c => absurd c (by decide)) (fun _ => ?_)
  refine a_iload_n dX11_feed_59 rfl rfl ?_
  refine a_goto 77 dX11_feed_60 (by decide) ?_
  refine a_istore dX11_feed_77 (Nat.le_of_ble_eq_true rfl) (lv2 := [(7, .int c), (6, .int 9), (0, .ref 89), (1, .int a), (2, .int b), (3, .int c), (4, .int d), (5, .int e)]) rfl ?_
  refine a_aload_n dX11_feed_79 rfl rfl ?_
  refine a_get (v := .ref 109) dX11_feed_80 fl_11_71 (cm_l h19 (by decide)) (cm_s h19 (by decide) rfl) (cm_g h19 rfl (by decide +kernel)) ?_
  refine a_aload_n dX11_feed_83 rfl rfl ?_
  refine a_get (v := .int 9) dX11_feed_84 fl_11_154 (cm_l h19 (by decide)) (cm_s h19 (by decide) rfl) (cm_gi h19 rfl (by decide) (by first | decide +kernel | rfl)) ?_
  refine a_iload dX11_feed_87 rfl ?_
  refine a_bipush (v := 24) dX11_feed_89 (by decide) ?_
  refine a_bipush (v := 8) dX11_feed_91 (by decide) ?_
  refine a_iload dX11_feed_93 rfl ?_
  refine a_iconst (v := 4) dX11_feed_95 (by decide) ?_
  refine a_irem dX11_feed_96 (by decide) ?_
  refine a_st (st2 := [.int 1, .int 8, .int 24, .int c, .int 9, .ref 109]) (by first | decide +kernel | (refine congrArg (fun z => Value.int z :: [.int 8, .int 24, .int c, .int 9, .ref 109]) ?_; decide +kernel) | (refine congrArg (fun z => Value.long z :: [.int 8, .int 24, .int c, .int 9, .ref 109]) ?_; decide +kernel)) ?_
  refine a_imul dX11_feed_97 ?_
  refine a_st (st2 := [.int 8, .int 24, .int c, .int 9, .ref 109]) (by first | decide +kernel | (refine congrArg (fun z => Value.int z :: [.int 24, .int c, .int 9, .ref 109]) ?_; decide +kernel) | (refine congrArg (fun z => Value.long z :: [.int 24, .int c, .int 9, .ref 109]) ?_; decide +kernel)) ?_
  refine a_isub dX11_feed_98 ?_
  refine a_st (st2 := [.int 16, .int c, .int 9, .ref 109]) (by first | decide +kernel | (refine congrArg (fun z => Value.int z :: [.int c, .int 9, .ref 109]) ?_; decide +kernel) | (refine congrArg (fun z => Value.long z :: [.int c, .int 9, .ref 109]) ?_; decide +kernel)) ?_
  refine a_ishr dX11_feed_99 ?_
  refine a_i2b dX11_feed_100 ?_
  refine a_bastore0 dX11_feed_101 (cm_l h19 (by decide)) (cm_s h19 (by decide) rfl) (by unfold vp_in; decide +kernel) ?_
  rw [show Int32.toNatClampNeg 9 = 9 from by decide +kernel]
  have h20 : Cm (up2 (up2 (up2 (up2 (up2 (up2 (up2 (up2 (up2 (up2 (up2 (up2 (up2 (up2 (up2 (up2 (up2 (up2 (up2 (up2 fs42 89 0 0) 109 0 ((Int32.toInt8 ((Int32.toInt8 (a >>> (24 &&& 31))).toInt32)).toInt32)) 89 27 1) 109 1 ((Int32.toInt8 ((Int32.toInt8 (a >>> (16 &&& 31))).toInt32)).toInt32)) 89 27 2) 109 2 ((Int32.toInt8 ((Int32.toInt8 (a >>> (8 &&& 31))).toInt32)).toInt32)) 89 27 3) 109 3 ((Int32.toInt8 ((Int32.toInt8 (a >>> (0 &&& 31))).toInt32)).toInt32)) 89 27 4) 109 4 ((Int32.toInt8 ((Int32.toInt8 (b >>> (24 &&& 31))).toInt32)).toInt32)) 89 27 5) 109 5 ((Int32.toInt8 ((Int32.toInt8 (b >>> (16 &&& 31))).toInt32)).toInt32)) 89 27 6) 109 6 ((Int32.toInt8 ((Int32.toInt8 (b >>> (8 &&& 31))).toInt32)).toInt32)) 89 27 7) 109 7 ((Int32.toInt8 ((Int32.toInt8 (b >>> (0 &&& 31))).toInt32)).toInt32)) 89 27 8) 109 8 ((Int32.toInt8 ((Int32.toInt8 (c >>> (24 &&& 31))).toInt32)).toInt32)) 89 27 9) 109 9 ((Int32.toInt8 ((Int32.toInt8 (c >>> (16 &&& 31))).toInt32)).toInt32)) (wI M19 109 9 ((Int32.toInt8 ((Int32.toInt8 (c >>> (16 &&& 31))).toInt32)).toInt32)) := cm_I h19 (by decide)
  generalize (wI M19 109 9 ((Int32.toInt8 ((Int32.toInt8 (c >>> (16 &&& 31))).toInt32)).toInt32)) = M20 at h20 ⊢
  refine a_aload_n dX11_feed_102 rfl rfl ?_
  refine a_dup dX11_feed_103 rfl ?_
  refine a_get (v := .int 9) dX11_feed_104 fl_11_154 (cm_l h20 (by decide)) (cm_s h20 (by decide) rfl) (cm_gi h20 rfl (by decide) (by first | decide +kernel | rfl)) ?_
  refine a_iconst (v := 1) dX11_feed_107 (by decide) ?_
  refine a_iadd dX11_feed_108 ?_
  refine a_st (st2 := [.int 10, .ref 89]) (by first | decide +kernel | (refine congrArg (fun z => Value.int z :: [.ref 89]) ?_; decide +kernel) | (refine congrArg (fun z => Value.long z :: [.ref 89]) ?_; decide +kernel)) ?_
  refine a_putI dX11_feed_109 (Or.inl ⟨fl_11_154, Or.inl rfl⟩) rfl (cm_l h20 (by decide)) (cm_s h20 (by decide) rfl) rfl rfl ?_
  have h21 : Cm (up2 (up2 (up2 (up2 (up2 (up2 (up2 (up2 (up2 (up2 (up2 (up2 (up2 (up2 (up2 (up2 (up2 (up2 (up2 (up2 (up2 fs42 89 0 0) 109 0 ((Int32.toInt8 ((Int32.toInt8 (a >>> (24 &&& 31))).toInt32)).toInt32)) 89 27 1) 109 1 ((Int32.toInt8 ((Int32.toInt8 (a >>> (16 &&& 31))).toInt32)).toInt32)) 89 27 2) 109 2 ((Int32.toInt8 ((Int32.toInt8 (a >>> (8 &&& 31))).toInt32)).toInt32)) 89 27 3) 109 3 ((Int32.toInt8 ((Int32.toInt8 (a >>> (0 &&& 31))).toInt32)).toInt32)) 89 27 4) 109 4 ((Int32.toInt8 ((Int32.toInt8 (b >>> (24 &&& 31))).toInt32)).toInt32)) 89 27 5) 109 5 ((Int32.toInt8 ((Int32.toInt8 (b >>> (16 &&& 31))).toInt32)).toInt32)) 89 27 6) 109 6 ((Int32.toInt8 ((Int32.toInt8 (b >>> (8 &&& 31))).toInt32)).toInt32)) 89 27 7) 109 7 ((Int32.toInt8 ((Int32.toInt8 (b >>> (0 &&& 31))).toInt32)).toInt32)) 89 27 8) 109 8 ((Int32.toInt8 ((Int32.toInt8 (c >>> (24 &&& 31))).toInt32)).toInt32)) 89 27 9) 109 9 ((Int32.toInt8 ((Int32.toInt8 (c >>> (16 &&& 31))).toInt32)).toInt32)) 89 27 10) (wI M20 89 27 10) := cm_I h20 (by decide)
  generalize (wI M20 89 27 10) = M21 at h21 ⊢
  refine a_iinc (v := 10) dX11_feed_112 rfl (by decide) (Nat.le_of_ble_eq_true rfl) (lv2 := [(6, .int 10), (7, .int c), (0, .ref 89), (1, .int a), (2, .int b), (3, .int c), (4, .int d), (5, .int e)]) rfl ?_
  refine a_goto 24 dX11_feed_115 (by decide) ?_
  refine a_iload dX11_feed_24 rfl ?_
  refine a_bipush (v := 20) dX11_feed_26 (by decide) ?_
  refine a_icmp_ge 118 dX11_feed_28 (by decide) (fun c => absurd c (by decide)) (fun _ => ?_)
  refine a_iload dX11_feed_31 rfl ?_
  refine a_iconst (v := 4) dX11_feed_33 (by decide) ?_
  refine a_icmp_ge 41 dX11_feed_34 (by decide) (fun _ => ?_) (fun c => absurd (by decide) c)
  refine a_iload dX11_feed_41 rfl ?_
  refine a_bipush (v := 8) dX11_feed_43 (by decide) ?_
  refine a_icmp_ge 52 dX11_feed_45 (by decide) (fun _ => ?_) (fun c => absurd (by decide) c)
  refine a_iload dX11_feed_52 rfl ?_
  refine a_bipush (v := 12) dX11_feed_54 (by decide) ?_
  refine a_icmp_ge 63 dX11_feed_56 (by decide) (fun c => absurd c (by decide)) (fun _ => ?_)
  refine a_iload_n dX11_feed_59 rfl rfl ?_
  refine a_goto 77 dX11_feed_60 (by decide) ?_
  refine a_istore dX11_feed_77 (Nat.le_of_ble_eq_true rfl) (lv2 := [(7, .int c), (6, .int 10), (0, .ref 89), (1, .int a), (2, .int b), (3, .int c), (4, .int d), (5, .int e)]) rfl ?_
  refine a_aload_n dX11_feed_79 rfl rfl ?_
  refine a_get (v := .ref 109) dX11_feed_80 fl_11_71 (cm_l h21 (by decide)) (cm_s h21 (by decide) rfl) (cm_g h21 rfl (by decide +kernel)) ?_
  refine a_aload_n dX11_feed_83 rfl rfl ?_
  refine a_get (v := .int 10) dX11_feed_84 fl_11_154 (cm_l h21 (by decide)) (cm_s h21 (by decide) rfl) (cm_gi h21 rfl (by decide) (by first | decide +kernel | rfl)) ?_
  refine a_iload dX11_feed_87 rfl ?_
  refine a_bipush (v := 24) dX11_feed_89 (by decide) ?_
  refine a_bipush (v := 8) dX11_feed_91 (by decide) ?_
  refine a_iload dX11_feed_93 rfl ?_
  refine a_iconst (v := 4) dX11_feed_95 (by decide) ?_
  refine a_irem dX11_feed_96 (by decide) ?_
  refine a_st (st2 := [.int 2, .int 8, .int 24, .int c, .int 10, .ref 109]) (by first | decide +kernel | (refine congrArg (fun z => Value.int z :: [.int 8, .int 24, .int c, .int 10, .ref 109]) ?_; decide +kernel) | (refine congrArg (fun z => Value.long z :: [.int 8, .int 24, .int c, .int 10, .ref 109]) ?_; decide +kernel)) ?_
  refine a_imul dX11_feed_97 ?_
  refine a_st (st2 := [.int 16, .int 24, .int c, .int 10, .ref 109]) (by first | decide +kernel | (refine congrArg (fun z => Value.int z :: [.int 24, .int c, .int 10, .ref 109]) ?_; decide +kernel) | (refine congrArg (fun z => Value.long z :: [.int 24, .int c, .int 10, .ref 109]) ?_; decide +kernel)) ?_
  refine a_isub dX11_feed_98 ?_
  refine a_st (st2 := [.int 8, .int c, .int 10, .ref 109]) (by first | decide +kernel | (refine congrArg (fun z => Value.int z :: [.int c, .int 10, .ref 109]) ?_; decide +kernel) | (refine congrArg (fun z => Value.long z :: [.int c, .int 10, .ref 109]) ?_; decide +kernel)) ?_
  refine a_ishr dX11_feed_99 ?_
  refine a_i2b dX11_feed_100 ?_
  refine a_bastore0 dX11_feed_101 (cm_l h21 (by decide)) (cm_s h21 (by decide) rfl) (by unfold vp_in; decide +kernel) ?_
  rw [show Int32.toNatClampNeg 10 = 10 from by decide +kernel]
  have h22 : Cm (up2 (up2 (up2 (up2 (up2 (up2 (up2 (up2 (up2 (up2 (up2 (up2 (up2 (up2 (up2 (up2 (up2 (up2 (up2 (up2 (up2 (up2 fs42 89 0 0) 109 0 ((Int32.toInt8 ((Int32.toInt8 (a >>> (24 &&& 31))).toInt32)).toInt32)) 89 27 1) 109 1 ((Int32.toInt8 ((Int32.toInt8 (a >>> (16 &&& 31))).toInt32)).toInt32)) 89 27 2) 109 2 ((Int32.toInt8 ((Int32.toInt8 (a >>> (8 &&& 31))).toInt32)).toInt32)) 89 27 3) 109 3 ((Int32.toInt8 ((Int32.toInt8 (a >>> (0 &&& 31))).toInt32)).toInt32)) 89 27 4) 109 4 ((Int32.toInt8 ((Int32.toInt8 (b >>> (24 &&& 31))).toInt32)).toInt32)) 89 27 5) 109 5 ((Int32.toInt8 ((Int32.toInt8 (b >>> (16 &&& 31))).toInt32)).toInt32)) 89 27 6) 109 6 ((Int32.toInt8 ((Int32.toInt8 (b >>> (8 &&& 31))).toInt32)).toInt32)) 89 27 7) 109 7 ((Int32.toInt8 ((Int32.toInt8 (b >>> (0 &&& 31))).toInt32)).toInt32)) 89 27 8) 109 8 ((Int32.toInt8 ((Int32.toInt8 (c >>> (24 &&& 31))).toInt32)).toInt32)) 89 27 9) 109 9 ((Int32.toInt8 ((Int32.toInt8 (c >>> (16 &&& 31))).toInt32)).toInt32)) 89 27 10) 109 10 ((Int32.toInt8 ((Int32.toInt8 (c >>> (8 &&& 31))).toInt32)).toInt32)) (wI M21 109 10 ((Int32.toInt8 ((Int32.toInt8 (c >>> (8 &&& 31))).toInt32)).toInt32)) := cm_I h21 (by decide)
  generalize (wI M21 109 10 ((Int32.toInt8 ((Int32.toInt8 (c >>> (8 &&& 31))).toInt32)).toInt32)) = M22 at h22 ⊢
  refine a_aload_n dX11_feed_102 rfl rfl ?_
  refine a_dup dX11_feed_103 rfl ?_
  refine a_get (v := .int 10) dX11_feed_104 fl_11_154 (cm_l h22 (by decide)) (cm_s h22 (by decide) rfl) (cm_gi h22 rfl (by decide) (by first | decide +kernel | rfl)) ?_
  refine a_iconst (v := 1) dX11_feed_107 (by decide) ?_
  refine a_iadd dX11_feed_108 ?_
  refine a_st (st2 := [.int 11, .ref 89]) (by first | decide +kernel | (refine congrArg (fun z => Value.int z :: [.ref 89]) ?_; decide +kernel) | (refine congrArg (fun z => Value.long z :: [.ref 89]) ?_; decide +kernel)) ?_
  refine a_putI dX11_feed_109 (Or.inl ⟨fl_11_154, Or.inl rfl⟩) rfl (cm_l h22 (by decide)) (cm_s h22 (by decide) rfl) rfl rfl ?_
  have h23 : Cm (up2 (up2 (up2 (up2 (up2 (up2 (up2 (up2 (up2 (up2 (up2 (up2 (up2 (up2 (up2 (up2 (up2 (up2 (up2 (up2 (up2 (up2 (up2 fs42 89 0 0) 109 0 ((Int32.toInt8 ((Int32.toInt8 (a >>> (24 &&& 31))).toInt32)).toInt32)) 89 27 1) 109 1 ((Int32.toInt8 ((Int32.toInt8 (a >>> (16 &&& 31))).toInt32)).toInt32)) 89 27 2) 109 2 ((Int32.toInt8 ((Int32.toInt8 (a >>> (8 &&& 31))).toInt32)).toInt32)) 89 27 3) 109 3 ((Int32.toInt8 ((Int32.toInt8 (a >>> (0 &&& 31))).toInt32)).toInt32)) 89 27 4) 109 4 ((Int32.toInt8 ((Int32.toInt8 (b >>> (24 &&& 31))).toInt32)).toInt32)) 89 27 5) 109 5 ((Int32.toInt8 ((Int32.toInt8 (b >>> (16 &&& 31))).toInt32)).toInt32)) 89 27 6) 109 6 ((Int32.toInt8 ((Int32.toInt8 (b >>> (8 &&& 31))).toInt32)).toInt32)) 89 27 7) 109 7 ((Int32.toInt8 ((Int32.toInt8 (b >>> (0 &&& 31))).toInt32)).toInt32)) 89 27 8) 109 8 ((Int32.toInt8 ((Int32.toInt8 (c >>> (24 &&& 31))).toInt32)).toInt32)) 89 27 9) 109 9 ((Int32.toInt8 ((Int32.toInt8 (c >>> (16 &&& 31))).toInt32)).toInt32)) 89 27 10) 109 10 ((Int32.toInt8 ((Int32.toInt8 (c >>> (8 &&& 31))).toInt32)).toInt32)) 89 27 11) (wI M22 89 27 11) := cm_I h22 (by decide)
  generalize (wI M22 89 27 11) = M23 at h23 ⊢
  refine a_iinc (v := 11) dX11_feed_112 rfl (by decide) (Nat.le_of_ble_eq_true rfl) (lv2 := [(6, .int 11), (7, .int c), (0, .ref 89), (1, .int a), (2, .int b), (3, .int c), (4, .int d), (5, .int e)]) rfl ?_
  refine a_goto 24 dX11_feed_115 (by decide) ?_
  refine a_iload dX11_feed_24 rfl ?_
  refine a_bipush (v := 20) dX11_feed_26 (by decide) ?_
  refine a_icmp_ge 118 dX11_feed_28 (by decide) (fun c => absurd c (by decide)) (fun _ => ?_)
  refine a_iload dX11_feed_31 rfl ?_
  refine a_iconst (v := 4) dX11_feed_33 (by decide) ?_
  refine a_icmp_ge 41 dX11_feed_34 (by decide) (fun _ => ?_) (fun c => absurd (by decide) c)
  refine a_iload dX11_feed_41 rfl ?_
  refine a_bipush (v := 8) dX11_feed_43 (by decide) ?_
  refine a_icmp_ge 52 dX11_feed_45 (by decide) (fun _ => ?_) (fun c => absurd (by decide) c)
  refine a_iload dX11_feed_52 rfl ?_
  refine a_bipush (v := 12) dX11_feed_54 (by decide) ?_
  refine a_icmp_ge 63 dX11_feed_56 (by decide) (fun c => absurd c (by decide)) (fun _ => ?_)
  refine a_iload_n dX11_feed_59 rfl rfl ?_
  refine a_goto 77 dX11_feed_60 (by decide) ?_
  refine a_istore dX11_feed_77 (Nat.le_of_ble_eq_true rfl) (lv2 := [(7, .int c), (6, .int 11), (0, .ref 89), (1, .int a), (2, .int b), (3, .int c), (4, .int d), (5, .int e)]) rfl ?_
  refine a_aload_n dX11_feed_79 rfl rfl ?_
  refine a_get (v := .ref 109) dX11_feed_80 fl_11_71 (cm_l h23 (by decide)) (cm_s h23 (by decide) rfl) (cm_g h23 rfl (by decide +kernel)) ?_
  refine a_aload_n dX11_feed_83 rfl rfl ?_
  refine a_get (v := .int 11) dX11_feed_84 fl_11_154 (cm_l h23 (by decide)) (cm_s h23 (by decide) rfl) (cm_gi h23 rfl (by decide) (by first | decide +kernel | rfl)) ?_
  refine a_iload dX11_feed_87 rfl ?_
  refine a_bipush (v := 24) dX11_feed_89 (by decide) ?_
  refine a_bipush (v := 8) dX11_feed_91 (by decide) ?_
  refine a_iload dX11_feed_93 rfl ?_
  refine a_iconst (v := 4) dX11_feed_95 (by decide) ?_
  refine a_irem dX11_feed_96 (by decide) ?_
  refine a_st (st2 := [.int 3, .int 8, .int 24, .int c, .int 11, .ref 109]) (by first | decide +kernel | (refine congrArg (fun z => Value.int z :: [.int 8, .int 24, .int c, .int 11, .ref 109]) ?_; decide +kernel) | (refine congrArg (fun z => Value.long z :: [.int 8, .int 24, .int c, .int 11, .ref 109]) ?_; decide +kernel)) ?_
  refine a_imul dX11_feed_97 ?_
  refine a_st (st2 := [.int 24, .int 24, .int c, .int 11, .ref 109]) (by first | decide +kernel | (refine congrArg (fun z => Value.int z :: [.int 24, .int c, .int 11, .ref 109]) ?_; decide +kernel) | (refine congrArg (fun z => Value.long z :: [.int 24, .int c, .int 11, .ref 109]) ?_; decide +kernel)) ?_
  refine a_isub dX11_feed_98 ?_
  refine a_st (st2 := [.int 0, .int c, .int 11, .ref 109]) (by first | decide +kernel | (refine congrArg (fun z => Value.int z :: [.int c, .int 11, .ref 109]) ?_; decide +kernel) | (refine congrArg (fun z => Value.long z :: [.int c, .int 11, .ref 109]) ?_; decide +kernel)) ?_
  refine a_ishr dX11_feed_99 ?_
  refine a_i2b dX11_feed_100 ?_
  refine a_bastore0 dX11_feed_101 (cm_l h23 (by decide)) (cm_s h23 (by decide) rfl) (by unfold vp_in; decide +kernel) ?_
  rw [show Int32.toNatClampNeg 11 = 11 from by decide +kernel]
  have h24 : Cm (up2 (up2 (up2 (up2 (up2 (up2 (up2 (up2 (up2 (up2 (up2 (up2 (up2 (up2 (up2 (up2 (up2 (up2 (up2 (up2 (up2 (up2 (up2 (up2 fs42 89 0 0) 109 0 ((Int32.toInt8 ((Int32.toInt8 (a >>> (24 &&& 31))).toInt32)).toInt32)) 89 27 1) 109 1 ((Int32.toInt8 ((Int32.toInt8 (a >>> (16 &&& 31))).toInt32)).toInt32)) 89 27 2) 109 2 ((Int32.toInt8 ((Int32.toInt8 (a >>> (8 &&& 31))).toInt32)).toInt32)) 89 27 3) 109 3 ((Int32.toInt8 ((Int32.toInt8 (a >>> (0 &&& 31))).toInt32)).toInt32)) 89 27 4) 109 4 ((Int32.toInt8 ((Int32.toInt8 (b >>> (24 &&& 31))).toInt32)).toInt32)) 89 27 5) 109 5 ((Int32.toInt8 ((Int32.toInt8 (b >>> (16 &&& 31))).toInt32)).toInt32)) 89 27 6) 109 6 ((Int32.toInt8 ((Int32.toInt8 (b >>> (8 &&& 31))).toInt32)).toInt32)) 89 27 7) 109 7 ((Int32.toInt8 ((Int32.toInt8 (b >>> (0 &&& 31))).toInt32)).toInt32)) 89 27 8) 109 8 ((Int32.toInt8 ((Int32.toInt8 (c >>> (24 &&& 31))).toInt32)).toInt32)) 89 27 9) 109 9 ((Int32.toInt8 ((Int32.toInt8 (c >>> (16 &&& 31))).toInt32)).toInt32)) 89 27 10) 109 10 ((Int32.toInt8 ((Int32.toInt8 (c >>> (8 &&& 31))).toInt32)).toInt32)) 89 27 11) 109 11 ((Int32.toInt8 ((Int32.toInt8 (c >>> (0 &&& 31))).toInt32)).toInt32)) (wI M23 109 11 ((Int32.toInt8 ((Int32.toInt8 (c >>> (0 &&& 31))).toInt32)).toInt32)) := cm_I h23 (by decide)
  generalize (wI M23 109 11 ((Int32.toInt8 ((Int32.toInt8 (c >>> (0 &&& 31))).toInt32)).toInt32)) = M24 at h24 ⊢
  refine a_aload_n dX11_feed_102 rfl rfl ?_
  refine a_dup dX11_feed_103 rfl ?_
  refine a_get (v := .int 11) dX11_feed_104 fl_11_154 (cm_l h24 (by decide)) (cm_s h24 (by decide) rfl) (cm_gi h24 rfl (by decide) (by first | decide +kernel | rfl)) ?_
  refine a_iconst (v := 1) dX11_feed_107 (by decide) ?_
  refine a_iadd dX11_feed_108 ?_
  refine a_st (st2 := [.int 12, .ref 89]) (by first | decide +kernel | (refine congrArg (fun z => Value.int z :: [.ref 89]) ?_; decide +kernel) | (refine congrArg (fun z => Value.long z :: [.ref 89]) ?_; decide +kernel)) ?_
  refine a_putI dX11_feed_109 (Or.inl ⟨fl_11_154, Or.inl rfl⟩) rfl (cm_l h24 (by decide)) (cm_s h24 (by decide) rfl) rfl rfl ?_
  have h25 : Cm (up2 (up2 (up2 (up2 (up2 (up2 (up2 (up2 (up2 (up2 (up2 (up2 (up2 (up2 (up2 (up2 (up2 (up2 (up2 (up2 (up2 (up2 (up2 (up2 (up2 fs42 89 0 0) 109 0 ((Int32.toInt8 ((Int32.toInt8 (a >>> (24 &&& 31))).toInt32)).toInt32)) 89 27 1) 109 1 ((Int32.toInt8 ((Int32.toInt8 (a >>> (16 &&& 31))).toInt32)).toInt32)) 89 27 2) 109 2 ((Int32.toInt8 ((Int32.toInt8 (a >>> (8 &&& 31))).toInt32)).toInt32)) 89 27 3) 109 3 ((Int32.toInt8 ((Int32.toInt8 (a >>> (0 &&& 31))).toInt32)).toInt32)) 89 27 4) 109 4 ((Int32.toInt8 ((Int32.toInt8 (b >>> (24 &&& 31))).toInt32)).toInt32)) 89 27 5) 109 5 ((Int32.toInt8 ((Int32.toInt8 (b >>> (16 &&& 31))).toInt32)).toInt32)) 89 27 6) 109 6 ((Int32.toInt8 ((Int32.toInt8 (b >>> (8 &&& 31))).toInt32)).toInt32)) 89 27 7) 109 7 ((Int32.toInt8 ((Int32.toInt8 (b >>> (0 &&& 31))).toInt32)).toInt32)) 89 27 8) 109 8 ((Int32.toInt8 ((Int32.toInt8 (c >>> (24 &&& 31))).toInt32)).toInt32)) 89 27 9) 109 9 ((Int32.toInt8 ((Int32.toInt8 (c >>> (16 &&& 31))).toInt32)).toInt32)) 89 27 10) 109 10 ((Int32.toInt8 ((Int32.toInt8 (c >>> (8 &&& 31))).toInt32)).toInt32)) 89 27 11) 109 11 ((Int32.toInt8 ((Int32.toInt8 (c >>> (0 &&& 31))).toInt32)).toInt32)) 89 27 12) (wI M24 89 27 12) := cm_I h24 (by decide)
  generalize (wI M24 89 27 12) = M25 at h25 ⊢
  refine a_iinc (v := 12) dX11_feed_112 rfl (by decide) (Nat.le_of_ble_eq_true rfl) (lv2 := [(6, .int 12), (7, .int c), (0, .ref 89), (1, .int a), (2, .int b), (3, .int c), (4, .int d), (5, .int e)]) rfl ?_
  refine a_goto 24 dX11_feed_115 (by decide) ?_
  refine a_iload dX11_feed_24 rfl ?_
  refine a_bipush (v := 20) dX11_feed_26 (by decide) ?_
  refine a_icmp_ge 118 dX11_feed_28 (by decide) (fun c => absurd c (by decide)) (fun _ => ?_)
  refine a_iload dX11_feed_31 rfl ?_
  refine a_iconst (v := 4) dX11_feed_33 (by decide) ?_
  refine a_icmp_ge 41 dX11_feed_34 (by decide) (fun _ => ?_) (fun c => absurd (by decide) c)
  refine a_iload dX11_feed_41 rfl ?_
  refine a_bipush (v := 8) dX11_feed_43 (by decide) ?_
  refine a_icmp_ge 52 dX11_feed_45 (by decide) (fun _ => ?_) (fun c => absurd (by decide) c)
  refine a_iload dX11_feed_52 rfl ?_
  refine a_bipush (v := 12) dX11_feed_54 (by decide) ?_
  refine a_icmp_ge 63 dX11_feed_56 (by decide) (fun _ => ?_) (fun c => absurd (by decide) c)
  refine a_iload dX11_feed_63 rfl ?_
  refine a_bipush (v := 16) dX11_feed_65 (by decide) ?_
  refine a_icmp_ge 75 dX11_feed_67 (by decide) (fun c => absurd c (by decide)) (fun _ => ?_)
  refine a_iload dX11_feed_70 rfl ?_
  refine a_goto 77 dX11_feed_72 (by decide) ?_
  refine a_istore dX11_feed_77 (Nat.le_of_ble_eq_true rfl) (lv2 := [(7, .int d), (6, .int 12), (0, .ref 89), (1, .int a), (2, .int b), (3, .int c), (4, .int d), (5, .int e)]) rfl ?_
  refine a_aload_n dX11_feed_79 rfl rfl ?_
  refine a_get (v := .ref 109) dX11_feed_80 fl_11_71 (cm_l h25 (by decide)) (cm_s h25 (by decide) rfl) (cm_g h25 rfl (by decide +kernel)) ?_
  refine a_aload_n dX11_feed_83 rfl rfl ?_
  refine a_get (v := .int 12) dX11_feed_84 fl_11_154 (cm_l h25 (by decide)) (cm_s h25 (by decide) rfl) (cm_gi h25 rfl (by decide) (by first | decide +kernel | rfl)) ?_
  refine a_iload dX11_feed_87 rfl ?_
  refine a_bipush (v := 24) dX11_feed_89 (by decide) ?_
  refine a_bipush (v := 8) dX11_feed_91 (by decide) ?_
  refine a_iload dX11_feed_93 rfl ?_
  refine a_iconst (v := 4) dX11_feed_95 (by decide) ?_
  refine a_irem dX11_feed_96 (by decide) ?_
  refine a_st (st2 := [.int 0, .int 8, .int 24, .int d, .int 12, .ref 109]) (by first | decide +kernel | (refine congrArg (fun z => Value.int z :: [.int 8, .int 24, .int d, .int 12, .ref 109]) ?_; decide +kernel) | (refine congrArg (fun z => Value.long z :: [.int 8, .int 24, .int d, .int 12, .ref 109]) ?_; decide +kernel)) ?_
  refine a_imul dX11_feed_97 ?_
  refine a_st (st2 := [.int 0, .int 24, .int d, .int 12, .ref 109]) (by first | decide +kernel | (refine congrArg (fun z => Value.int z :: [.int 24, .int d, .int 12, .ref 109]) ?_; decide +kernel) | (refine congrArg (fun z => Value.long z :: [.int 24, .int d, .int 12, .ref 109]) ?_; decide +kernel)) ?_
  refine a_isub dX11_feed_98 ?_
  refine a_st (st2 := [.int 24, .int d, .int 12, .ref 109]) (by first | decide +kernel | (refine congrArg (fun z => Value.int z :: [.int d, .int 12, .ref 109]) ?_; decide +kernel) | (refine congrArg (fun z => Value.long z :: [.int d, .int 12, .ref 109]) ?_; decide +kernel)) ?_
  refine a_ishr dX11_feed_99 ?_
  refine a_i2b dX11_feed_100 ?_
  refine a_bastore0 dX11_feed_101 (cm_l h25 (by decide)) (cm_s h25 (by decide) rfl) (by unfold vp_in; decide +kernel) ?_
  rw [show Int32.toNatClampNeg 12 = 12 from by decide +kernel]
  have h26 : Cm (up2 (up2 (up2 (up2 (up2 (up2 (up2 (up2 (up2 (up2 (up2 (up2 (up2 (up2 (up2 (up2 (up2 (up2 (up2 (up2 (up2 (up2 (up2 (up2 (up2 (up2 fs42 89 0 0) 109 0 ((Int32.toInt8 ((Int32.toInt8 (a >>> (24 &&& 31))).toInt32)).toInt32)) 89 27 1) 109 1 ((Int32.toInt8 ((Int32.toInt8 (a >>> (16 &&& 31))).toInt32)).toInt32)) 89 27 2) 109 2 ((Int32.toInt8 ((Int32.toInt8 (a >>> (8 &&& 31))).toInt32)).toInt32)) 89 27 3) 109 3 ((Int32.toInt8 ((Int32.toInt8 (a >>> (0 &&& 31))).toInt32)).toInt32)) 89 27 4) 109 4 ((Int32.toInt8 ((Int32.toInt8 (b >>> (24 &&& 31))).toInt32)).toInt32)) 89 27 5) 109 5 ((Int32.toInt8 ((Int32.toInt8 (b >>> (16 &&& 31))).toInt32)).toInt32)) 89 27 6) 109 6 ((Int32.toInt8 ((Int32.toInt8 (b >>> (8 &&& 31))).toInt32)).toInt32)) 89 27 7) 109 7 ((Int32.toInt8 ((Int32.toInt8 (b >>> (0 &&& 31))).toInt32)).toInt32)) 89 27 8) 109 8 ((Int32.toInt8 ((Int32.toInt8 (c >>> (24 &&& 31))).toInt32)).toInt32)) 89 27 9) 109 9 ((Int32.toInt8 ((Int32.toInt8 (c >>> (16 &&& 31))).toInt32)).toInt32)) 89 27 10) 109 10 ((Int32.toInt8 ((Int32.toInt8 (c >>> (8 &&& 31))).toInt32)).toInt32)) 89 27 11) 109 11 ((Int32.toInt8 ((Int32.toInt8 (c >>> (0 &&& 31))).toInt32)).toInt32)) 89 27 12) 109 12 ((Int32.toInt8 ((Int32.toInt8 (d >>> (24 &&& 31))).toInt32)).toInt32)) (wI M25 109 12 ((Int32.toInt8 ((Int32.toInt8 (d >>> (24 &&& 31))).toInt32)).toInt32)) := cm_I h25 (by decide)
  generalize (wI M25 109 12 ((Int32.toInt8 ((Int32.toInt8 (d >>> (24 &&& 31))).toInt32)).toInt32)) = M26 at h26 ⊢
  refine a_aload_n dX11_feed_102 rfl rfl ?_
  refine a_dup dX11_feed_103 rfl ?_
  refine a_get (v := .int 12) dX11_feed_104 fl_11_154 (cm_l h26 (by decide)) (cm_s h26 (by decide) rfl) (cm_gi h26 rfl (by decide) (by first | decide +kernel | rfl)) ?_
  refine a_iconst (v := 1) dX11_feed_107 (by decide) ?_
  refine a_iadd dX11_feed_108 ?_
  refine a_st (st2 := [.int 13, .ref 89]) (by first | decide +kernel | (refine congrArg (fun z => Value.int z :: [.ref 89]) ?_; decide +kernel) | (refine congrArg (fun z => Value.long z :: [.ref 89]) ?_; decide +kernel)) ?_
  refine a_putI dX11_feed_109 (Or.inl ⟨fl_11_154, Or.inl rfl⟩) rfl (cm_l h26 (by decide)) (cm_s h26 (by decide) rfl) rfl rfl ?_
  have h27 : Cm (up2 (up2 (up2 (up2 (up2 (up2 (up2 (up2 (up2 (up2 (up2 (up2 (up2 (up2 (up2 (up2 (up2 (up2 (up2 (up2 (up2 (up2 (up2 (up2 (up2 (up2 (up2 fs42 89 0 0) 109 0 ((Int32.toInt8 ((Int32.toInt8 (a >>> (24 &&& 31))).toInt32)).toInt32)) 89 27 1) 109 1 ((Int32.toInt8 ((Int32.toInt8 (a >>> (16 &&& 31))).toInt32)).toInt32)) 89 27 2) 109 2 ((Int32.toInt8 ((Int32.toInt8 (a >>> (8 &&& 31))).toInt32)).toInt32)) 89 27 3) 109 3 ((Int32.toInt8 ((Int32.toInt8 (a >>> (0 &&& 31))).toInt32)).toInt32)) 89 27 4) 109 4 ((Int32.toInt8 ((Int32.toInt8 (b >>> (24 &&& 31))).toInt32)).toInt32)) 89 27 5) 109 5 ((Int32.toInt8 ((Int32.toInt8 (b >>> (16 &&& 31))).toInt32)).toInt32)) 89 27 6) 109 6 ((Int32.toInt8 ((Int32.toInt8 (b >>> (8 &&& 31))).toInt32)).toInt32)) 89 27 7) 109 7 ((Int32.toInt8 ((Int32.toInt8 (b >>> (0 &&& 31))).toInt32)).toInt32)) 89 27 8) 109 8 ((Int32.toInt8 ((Int32.toInt8 (c >>> (24 &&& 31))).toInt32)).toInt32)) 89 27 9) 109 9 ((Int32.toInt8 ((Int32.toInt8 (c >>> (16 &&& 31))).toInt32)).toInt32)) 89 27 10) 109 10 ((Int32.toInt8 ((Int32.toInt8 (c >>> (8 &&& 31))).toInt32)).toInt32)) 89 27 11) 109 11 ((Int32.toInt8 ((Int32.toInt8 (c >>> (0 &&& 31))).toInt32)).toInt32)) 89 27 12) 109 12 ((Int32.toInt8 ((Int32.toInt8 (d >>> (24 &&& 31))).toInt32)).toInt32)) 89 27 13) (wI M26 89 27 13) := cm_I h26 (by decide)
  generalize (wI M26 89 27 13) = M27 at h27 ⊢
  refine a_iinc (v := 13) dX11_feed_112 rfl (by decide) (Nat.le_of_ble_eq_true rfl) (lv2 := [(6, .int 13), (7, .int d), (0, .ref 89), (1, .int a), (2, .int b), (3, .int c), (4, .int d), (5, .int e)]) rfl ?_
  refine a_goto 24 dX11_feed_115 (by decide) ?_
  refine a_iload dX11_feed_24 rfl ?_
  refine a_bipush (v := 20) dX11_feed_26 (by decide) ?_
  refine a_icmp_ge 118 dX11_feed_28 (by decide) (fun c => absurd c (by decide)) (fun _ => ?_)
  refine a_iload dX11_feed_31 rfl ?_
  refine a_iconst (v := 4) dX11_feed_33 (by decide) ?_
  refine a_icmp_ge 41 dX11_feed_34 (by decide) (fun _ => ?_) (fun c => absurd (by decide) c)
  refine a_iload dX11_feed_41 rfl ?_
  refine a_bipush (v := 8) dX11_feed_43 (by decide) ?_
  refine a_icmp_ge 52 dX11_feed_45 (by decide) (fun _ => ?_) (fun c => absurd (by decide) c)
  refine a_iload dX11_feed_52 rfl ?_
  refine a_bipush (v := 12) dX11_feed_54 (by decide) ?_
  refine a_icmp_ge 63 dX11_feed_56 (by decide) (fun _ => ?_) (fun c => absurd (by decide) c)
  refine a_iload dX11_feed_63 rfl ?_
  refine a_bipush (v := 16) dX11_feed_65 (by decide) ?_
  refine a_icmp_ge 75 dX11_feed_67 (by decide) (fun c => absurd c (by decide)) (fun _ => ?_)
  refine a_iload dX11_feed_70 rfl ?_
  refine a_goto 77 dX11_feed_72 (by decide) ?_
  refine a_istore dX11_feed_77 (Nat.le_of_ble_eq_true rfl) (lv2 := [(7, .int d), (6, .int 13), (0, .ref 89), (1, .int a), (2, .int b), (3, .int c), (4, .int d), (5, .int e)]) rfl ?_
  refine a_aload_n dX11_feed_79 rfl rfl ?_
  refine a_get (v := .ref 109) dX11_feed_80 fl_11_71 (cm_l h27 (by decide)) (cm_s h27 (by decide) rfl) (cm_g h27 rfl (by decide +kernel)) ?_
  refine a_aload_n dX11_feed_83 rfl rfl ?_
  refine a_get (v := .int 13) dX11_feed_84 fl_11_154 (cm_l h27 (by decide)) (cm_s h27 (by decide) rfl) (cm_gi h27 rfl (by decide) (by first | decide +kernel | rfl)) ?_
  refine a_iload dX11_feed_87 rfl ?_
  refine a_bipush (v := 24) dX11_feed_89 (by decide) ?_
  refine a_bipush (v := 8) dX11_feed_91 (by decide) ?_
  refine a_iload dX11_feed_93 rfl ?_
  refine a_iconst (v := 4) dX11_feed_95 (by decide) ?_
  refine a_irem dX11_feed_96 (by decide) ?_
  refine a_st (st2 := [.int 1, .int 8, .int 24, .int d, .int 13, .ref 109]) (by first | decide +kernel | (refine congrArg (fun z => Value.int z :: [.int 8, .int 24, .int d, .int 13, .ref 109]) ?_; decide +kernel) | (refine congrArg (fun z => Value.long z :: [.int 8, .int 24, .int d, .int 13, .ref 109]) ?_; decide +kernel)) ?_
  refine a_imul dX11_feed_97 ?_
  refine a_st (st2 := [.int 8, .int 24, .int d, .int 13, .ref 109]) (by first | decide +kernel | (refine congrArg (fun z => Value.int z :: [.int 24, .int d, .int 13, .ref 109]) ?_; decide +kernel) | (refine congrArg (fun z => Value.long z :: [.int 24, .int d, .int 13, .ref 109]) ?_; decide +kernel)) ?_
  refine a_isub dX11_feed_98 ?_
  refine a_st (st2 := [.int 16, .int d, .int 13, .ref 109]) (by first | decide +kernel | (refine congrArg (fun z => Value.int z :: [.int d, .int 13, .ref 109]) ?_; decide +kernel) | (refine congrArg (fun z => Value.long z :: [.int d, .int 13, .ref 109]) ?_; decide +kernel)) ?_
  refine a_ishr dX11_feed_99 ?_
  refine a_i2b dX11_feed_100 ?_
  refine a_bastore0 dX11_feed_101 (cm_l h27 (by decide)) (cm_s h27 (by decide) rfl) (by unfold vp_in; decide +kernel) ?_
  rw [show Int32.toNatClampNeg 13 = 13 from by decide +kernel]
  have h28 : Cm (up2 (up2 (up2 (up2 (up2 (up2 (up2 (up2 (up2 (up2 (up2 (up2 (up2 (up2 (up2 (up2 (up2 (up2 (up2 (up2 (up2 (up2 (up2 (up2 (up2 (up2 (up2 (up2 fs42 89 0 0) 109 0 ((Int32.toInt8 ((Int32.toInt8 (a >>> (24 &&& 31))).toInt32)).toInt32)) 89 27 1) 109 1 ((Int32.toInt8 ((Int32.toInt8 (a >>> (16 &&& 31))).toInt32)).toInt32)) 89 27 2) 109 2 ((Int32.toInt8 ((Int32.toInt8 (a >>> (8 &&& 31))).toInt32)).toInt32)) 89 27 3) 109 3 ((Int32.toInt8 ((Int32.toInt8 (a >>> (0 &&& 31))).toInt32)).toInt32)) 89 27 4) 109 4 ((Int32.toInt8 ((Int32.toInt8 (b >>> (24 &&& 31))).toInt32)).toInt32)) 89 27 5) 109 5 ((Int32.toInt8 ((Int32.toInt8 (b >>> (16 &&& 31))).toInt32)).toInt32)) 89 27 6) 109 6 ((Int32.toInt8 ((Int32.toInt8 (b >>> (8 &&& 31))).toInt32)).toInt32)) 89 27 7) 109 7 ((Int32.toInt8 ((Int32.toInt8 (b >>> (0 &&& 31))).toInt32)).toInt32)) 89 27 8) 109 8 ((Int32.toInt8 ((Int32.toInt8 (c >>> (24 &&& 31))).toInt32)).toInt32)) 89 27 9) 109 9 ((Int32.toInt8 ((Int32.toInt8 (c >>> (16 &&& 31))).toInt32)).toInt32)) 89 27 10) 109 10 ((Int32.toInt8 ((Int32.toInt8 (c >>> (8 &&& 31))).toInt32)).toInt32)) 89 27 11) 109 11 ((Int32.toInt8 ((Int32.toInt8 (c >>> (0 &&& 31))).toInt32)).toInt32)) 89 27 12) 109 12 ((Int32.toInt8 ((Int32.toInt8 (d >>> (24 &&& 31))).toInt32)).toInt32)) 89 27 13) 109 13 ((Int32.toInt8 ((Int32.toInt8 (d >>> (16 &&& 31))).toInt32)).toInt32)) (wI M27 109 13 ((Int32.toInt8 ((Int32.toInt8 (d >>> (16 &&& 31))).toInt32)).toInt32)) := cm_I h27 (by decide)
  generalize (wI M27 109 13 ((Int32.toInt8 ((Int32.toInt8 (d >>> (16 &&& 31))).toInt32)).toInt32)) = M28 at h28 ⊢
  refine a_aload_n dX11_feed_102 rfl rfl ?_
  refine a_dup dX11_feed_103 rfl ?_
  refine a_get (v := .int 13) dX11_feed_104 fl_11_154 (cm_l h28 (by decide)) (cm_s h28 (by decide) rfl) (cm_gi h28 rfl (by decide) (by first | decide +kernel | rfl)) ?_
  refine a_iconst (v := 1) dX11_feed_107 (by decide) ?_
  refine a_iadd dX11_feed_108 ?_
  refine a_st (st2 := [.int 14, .ref 89]) (by first | decide +kernel | (refine congrArg (fun z => Value.int z :: [.ref 89]) ?_; decide +kernel) | (refine congrArg (fun z => Value.long z :: [.ref 89]) ?_; decide +kernel)) ?_
  refine a_putI dX11_feed_109 (Or.inl ⟨fl_11_154, Or.inl rfl⟩) rfl (cm_l h28 (by decide)) (cm_s h28 (by decide) rfl) rfl rfl ?_
  have h29 : Cm (up2 (up2 (up2 (up2 (up2 (up2 (up2 (up2 (up2 (up2 (up2 (up2 (up2 (up2 (up2 (up2 (up2 (up2 (up2 (up2 (up2 (up2 (up2 (up2 (up2 (up2 (up2 (up2 (up2 fs42 89 0 0) 109 0 ((Int32.toInt8 ((Int32.toInt8 (a >>> (24 &&& 31))).toInt32)).toInt32)) 89 27 1) 109 1 ((Int32.toInt8 ((Int32.toInt8 (a >>> (16 &&& 31))).toInt32)).toInt32)) 89 27 2) 109 2 ((Int32.toInt8 ((Int32.toInt8 (a >>> (8 &&& 31))).toInt32)).toInt32)) 89 27 3) 109 3 ((Int32.toInt8 ((Int32.toInt8 (a >>> (0 &&& 31))).toInt32)).toInt32)) 89 27 4) 109 4 ((Int32.toInt8 ((Int32.toInt8 (b >>> (24 &&& 31))).toInt32)).toInt32)) 89 27 5) 109 5 ((Int32.toInt8 ((Int32.toInt8 (b >>> (16 &&& 31))).toInt32)).toInt32)) 89 27 6) 109 6 ((Int32.toInt8 ((Int32.toInt8 (b >>> (8 &&& 31))).toInt32)).toInt32)) 89 27 7) 109 7 ((Int32.toInt8 ((Int32.toInt8 (b >>> (0 &&& 31))).toInt32)).toInt32)) 89 27 8) 109 8 ((Int32.toInt8 ((Int32.toInt8 (c >>> (24 &&& 31))).toInt32)).toInt32)) 89 27 9) 109 9 ((Int32.toInt8 ((Int32.toInt8 (c >>> (16 &&& 31))).toInt32)).toInt32)) 89 27 10) 109 10 ((Int32.toInt8 ((Int32.toInt8 (c >>> (8 &&& 31))).toInt32)).toInt32)) 89 27 11) 109 11 ((Int32.toInt8 ((Int32.toInt8 (c >>> (0 &&& 31))).toInt32)).toInt32)) 89 27 12) 109 12 ((Int32.toInt8 ((Int32.toInt8 (d >>> (24 &&& 31))).toInt32)).toInt32)) 89 27 13) 109 13 ((Int32.toInt8 ((Int32.toInt8 (d >>> (16 &&& 31))).toInt32)).toInt32)) 89 27 14) (wI M28 89 27 14) := cm_I h28 (by decide)
  generalize (wI M28 89 27 14) = M29 at h29 ⊢
  refine a_iinc (v := 14) dX11_feed_112 rfl (by decide) (Nat.le_of_ble_eq_true rfl) (lv2 := [(6, .int 14), (7, .int d), (0, .ref 89), (1, .int a), (2, .int b), (3, .int c), (4, .int d), (5, .int e)]) rfl ?_
  refine a_goto 24 dX11_feed_115 (by decide) ?_
  refine a_iload dX11_feed_24 rfl ?_
  refine a_bipush (v := 20) dX11_feed_26 (by decide) ?_
  refine a_icmp_ge 118 dX11_feed_28 (by decide) (fun c => absurd c (by decide)) (fun _ => ?_)
  refine a_iload dX11_feed_31 rfl ?_
  refine a_iconst (v := 4) dX11_feed_33 (by decide) ?_
  refine a_icmp_ge 41 dX11_feed_34 (by decide) (fun _ => ?_) (fun c => absurd (by decide) c)
  refine a_iload dX11_feed_41 rfl ?_
  refine a_bipush (v := 8) dX11_feed_43 (by decide) ?_
  refine a_icmp_ge 52 dX11_feed_45 (by decide) (fun _ => ?_) (fun c => absurd (by decide) c)
  refine a_iload dX11_feed_52 rfl ?_
  refine a_bipush (v := 12) dX11_feed_54 (by decide) ?_
  refine a_icmp_ge 63 dX11_feed_56 (by decide) (fun _ => ?_) (fun c => absurd (by decide) c)
  refine a_iload dX11_feed_63 rfl ?_
  refine a_bipush (v := 16) dX11_feed_65 (by decide) ?_
  refine a_icmp_ge 75 dX11_feed_67 (by decide) (fun c => absurd c (by decide)) (fun _ => ?_)
  refine a_iload dX11_feed_70 rfl ?_
  refine a_goto 77 dX11_feed_72 (by decide) ?_
  refine a_istore dX11_feed_77 (Nat.le_of_ble_eq_true rfl) (lv2 := [(7, .int d), (6, .int 14), (0, .ref 89), (1, .int a), (2, .int b), (3, .int c), (4, .int d), (5, .int e)]) rfl ?_
  refine a_aload_n dX11_feed_79 rfl rfl ?_
  refine a_get (v := .ref 109) dX11_feed_80 fl_11_71 (cm_l h29 (by decide)) (cm_s h29 (by decide) rfl) (cm_g h29 rfl (by decide +kernel)) ?_
  refine a_aload_n dX11_feed_83 rfl rfl ?_
  refine a_get (v := .int 14) dX11_feed_84 fl_11_154 (cm_l h29 (by decide)) (cm_s h29 (by decide) rfl) (cm_gi h29 rfl (by decide) (by first | decide +kernel | rfl)) ?_
  refine a_iload dX11_feed_87 rfl ?_
  refine a_bipush (v := 24) dX11_feed_89 (by decide) ?_
  refine a_bipush (v := 8) dX11_feed_91 (by decide) ?_
  refine a_iload dX11_feed_93 rfl ?_
  refine a_iconst (v := 4) dX11_feed_95 (by decide) ?_
  refine a_irem dX11_feed_96 (by decide) ?_
  refine a_st (st2 := [.int 2, .int 8, .int 24, .int d, .int 14, .ref 109]) (by first | decide +kernel | (refine congrArg (fun z => Value.int z :: [.int 8, .int 24, .int d, .int 14, .ref 109]) ?_; decide +kernel) | (refine congrArg (fun z => Value.long z :: [.int 8, .int 24, .int d, .int 14, .ref 109]) ?_; decide +kernel)) ?_
  refine a_imul dX11_feed_97 ?_
  refine a_st (st2 := [.int 16, .int 24, .int d, .int 14, .ref 109]) (by first | decide +kernel | (refine congrArg (fun z => Value.int z :: [.int 24, .int d, .int 14, .ref 109]) ?_; decide +kernel) | (refine congrArg (fun z => Value.long z :: [.int 24, .int d, .int 14, .ref 109]) ?_; decide +kernel)) ?_
  refine a_isub dX11_feed_98 ?_
  refine a_st (st2 := [.int 8, .int d, .int 14, .ref 109]) (by first | decide +kernel | (refine congrArg (fun z => Value.int z :: [.int d, .int 14, .ref 109]) ?_; decide +kernel) | (refine congrArg (fun z => Value.long z :: [.int d, .int 14, .ref 109]) ?_; decide +kernel)) ?_
  refine a_ishr dX11_feed_99 ?_
  refine a_i2b dX11_feed_100 ?_
  refine a_bastore0 dX11_feed_101 (cm_l h29 (by decide)) (cm_s h29 (by decide) rfl) (by unfold vp_in; decide +kernel) ?_
  rw [show Int32.toNatClampNeg 14 = 14 from by decide +kernel]
  have h30 : Cm (up2 (up2 (up2 (up2 (up2 (up2 (up2 (up2 (up2 (up2 (up2 (up2 (up2 (up2 (up2 (up2 (up2 (up2 (up2 (up2 (up2 (up2 (up2 (up2 (up2 (up2 (up2 (up2 (up2 (up2 fs42 89 0 0) 109 0 ((Int32.toInt8 ((Int32.toInt8 (a >>> (24 &&& 31))).toInt32)).toInt32)) 89 27 1) 109 1 ((Int32.toInt8 ((Int32.toInt8 (a >>> (16 &&& 31))).toInt32)).toInt32)) 89 27 2) 109 2 ((Int32.toInt8 ((Int32.toInt8 (a >>> (8 &&& 31))).toInt32)).toInt32)) 89 27 3) 109 3 ((Int32.toInt8 ((Int32.toInt8 (a >>> (0 &&& 31))).toInt32)).toInt32)) 89 27 4) 109 4 ((Int32.toInt8 ((Int32.toInt8 (b >>> (24 &&& 31))).toInt32)).toInt32)) 89 27 5) 109 5 ((Int32.toInt8 ((Int32.toInt8 (b >>> (16 &&& 31))).toInt32)).toInt32)) 89 27 6) 109 6 ((Int32.toInt8 ((Int32.toInt8 (b >>> (8 &&& 31))).toInt32)).toInt32)) 89 27 7) 109 7 ((Int32.toInt8 ((Int32.toInt8 (b >>> (0 &&& 31))).toInt32)).toInt32)) 89 27 8) 109 8 ((Int32.toInt8 ((Int32.toInt8 (c >>> (24 &&& 31))).toInt32)).toInt32)) 89 27 9) 109 9 ((Int32.toInt8 ((Int32.toInt8 (c >>> (16 &&& 31))).toInt32)).toInt32)) 89 27 10) 109 10 ((Int32.toInt8 ((Int32.toInt8 (c >>> (8 &&& 31))).toInt32)).toInt32)) 89 27 11) 109 11 ((Int32.toInt8 ((Int32.toInt8 (c >>> (0 &&& 31))).toInt32)).toInt32)) 89 27 12) 109 12 ((Int32.toInt8 ((Int32.toInt8 (d >>> (24 &&& 31))).toInt32)).toInt32)) 89 27 13) 109 13 ((Int32.toInt8 ((Int32.toInt8 (d >>> (16 &&& 31))).toInt32)).toInt32)) 89 27 14) 109 14 ((Int32.toInt8 ((Int32.toInt8 (d >>> (8 &&& 31))).toInt32)).toInt32)) (wI M29 109 14 ((Int32.toInt8 ((Int32.toInt8 (d >>> (8 &&& 31))).toInt32)).toInt32)) := cm_I h29 (by decide)
  generalize (wI M29 109 14 ((Int32.toInt8 ((Int32.toInt8 (d >>> (8 &&& 31))).toInt32)).toInt32)) = M30 at h30 ⊢
  refine a_aload_n dX11_feed_102 rfl rfl ?_
  refine a_dup dX11_feed_103 rfl ?_
  refine a_get (v := .int 14) dX11_feed_104 fl_11_154 (cm_l h30 (by decide)) (cm_s h30 (by decide) rfl) (cm_gi h30 rfl (by decide) (by first | decide +kernel | rfl)) ?_
  refine a_iconst (v := 1) dX11_feed_107 (by decide) ?_
  refine a_iadd dX11_feed_108 ?_
  refine a_st (st2 := [.int 15, .ref 89]) (by first | decide +kernel | (refine congrArg (fun z => Value.int z :: [.ref 89]) ?_; decide +kernel) | (refine congrArg (fun z => Value.long z :: [.ref 89]) ?_; decide +kernel)) ?_
  refine a_putI dX11_feed_109 (Or.inl ⟨fl_11_154, Or.inl rfl⟩) rfl (cm_l h30 (by decide)) (cm_s h30 (by decide) rfl) rfl rfl ?_
  have h31 : Cm (up2 (up2 (up2 (up2 (up2 (up2 (up2 (up2 (up2 (up2 (up2 (up2 (up2 (up2 (up2 (up2 (up2 (up2 (up2 (up2 (up2 (up2 (up2 (up2 (up2 (up2 (up2 (up2 (up2 (up2 (up2 fs42 89 0 0) 109 0 ((Int32.toInt8 ((Int32.toInt8 (a >>> (24 &&& 31))).toInt32)).toInt32)) 89 27 1) 109 1 ((Int32.toInt8 ((Int32.toInt8 (a >>> (16 &&& 31))).toInt32)).toInt32)) 89 27 2) 109 2 ((Int32.toInt8 ((Int32.toInt8 (a >>> (8 &&& 31))).toInt32)).toInt32)) 89 27 3) 109 3 ((Int32.toInt8 ((Int32.toInt8 (a >>> (0 &&& 31))).toInt32)).toInt32)) 89 27 4) 109 4 ((Int32.toInt8 ((Int32.toInt8 (b >>> (24 &&& 31))).toInt32)).toInt32)) 89 27 5) 109 5 ((Int32.toInt8 ((Int32.toInt8 (b >>> (16 &&& 31))).toInt32)).toInt32)) 89 27 6) 109 6 ((Int32.toInt8 ((Int32.toInt8 (b >>> (8 &&& 31))).toInt32)).toInt32)) 89 27 7) 109 7 ((Int32.toInt8 ((Int32.toInt8 (b >>> (0 &&& 31))).toInt32)).toInt32)) 89 27 8) 109 8 ((Int32.toInt8 ((Int32.toInt8 (c >>> (24 &&& 31))).toInt32)).toInt32)) 89 27 9) 109 9 ((Int32.toInt8 ((Int32.toInt8 (c >>> (16 &&& 31))).toInt32)).toInt32)) 89 27 10) 109 10 ((Int32.toInt8 ((Int32.toInt8 (c >>> (8 &&& 31))).toInt32)).toInt32)) 89 27 11) 109 11 ((Int32.toInt8 ((Int32.toInt8 (c >>> (0 &&& 31))).toInt32)).toInt32)) 89 27 12) 109 12 ((Int32.toInt8 ((Int32.toInt8 (d >>> (24 &&& 31))).toInt32)).toInt32)) 89 27 13) 109 13 ((Int32.toInt8 ((Int32.toInt8 (d >>> (16 &&& 31))).toInt32)).toInt32)) 89 27 14) 109 14 ((Int32.toInt8 ((Int32.toInt8 (d >>> (8 &&& 31))).toInt32)).toInt32)) 89 27 15) (wI M30 89 27 15) := cm_I h30 (by decide)
  generalize (wI M30 89 27 15) = M31 at h31 ⊢
  refine a_iinc (v := 15) dX11_feed_112 rfl (by decide) (Nat.le_of_ble_eq_true rfl) (lv2 := [(6, .int 15), (7, .int d), (0, .ref 89), (1, .int a), (2, .int b), (3, .int c), (4, .int d), (5, .int e)]) rfl ?_
  refine a_goto 24 dX11_feed_115 (by decide) ?_
  refine a_iload dX11_feed_24 rfl ?_
  refine a_bipush (v := 20) dX11_feed_26 (by decide) ?_
  refine a_icmp_ge 118 dX11_feed_28 (by decide) (fun c => absurd c (by decide)) (fun _ => ?_)
  refine a_iload dX11_feed_31 rfl ?_
  refine a_iconst (v := 4) dX11_feed_33 (by decide) ?_
  refine a_icmp_ge 41 dX11_feed_34 (by decide) (fun _ => ?_) (fun c => absurd (by decide) c)
  refine a_iload dX11_feed_41 rfl ?_
  refine a_bipush (v := 8) dX11_feed_43 (by decide) ?_
  refine a_icmp_ge 52 dX11_feed_45 (by decide) (fun _ => ?_) (fun c => absurd (by decide) c)
  refine a_iload dX11_feed_52 rfl ?_
  refine a_bipush (v := 12) dX11_feed_54 (by decide) ?_
  refine a_icmp_ge 63 dX11_feed_56 (by decide) (fun _ => ?_) (fun c => absurd (by decide) c)
  refine a_iload dX11_feed_63 rfl ?_
  refine a_bipush (v := 16) dX11_feed_65 (by decide) ?_
  refine a_icmp_ge 75 dX11_feed_67 (by decide) (fun c => absurd c (by decide)) (fun _ => ?_)
  refine a_iload dX11_feed_70 rfl ?_
  refine a_goto 77 dX11_feed_72 (by decide) ?_
  refine a_istore dX11_feed_77 (Nat.le_of_ble_eq_true rfl) (lv2 := [(7, .int d), (6, .int 15), (0, .ref 89), (1, .int a), (2, .int b), (3, .int c), (4, .int d), (5, .int e)]) rfl ?_
  refine a_aload_n dX11_feed_79 rfl rfl ?_
  refine a_get (v := .ref 109) dX11_feed_80 fl_11_71 (cm_l h31 (by decide)) (cm_s h31 (by decide) rfl) (cm_g h31 rfl (by decide +kernel)) ?_
  refine a_aload_n dX11_feed_83 rfl rfl ?_
  refine a_get (v := .int 15) dX11_feed_84 fl_11_154 (cm_l h31 (by decide)) (cm_s h31 (by decide) rfl) (cm_gi h31 rfl (by decide) (by first | decide +kernel | rfl)) ?_
  refine a_iload dX11_feed_87 rfl ?_
  refine a_bipush (v := 24) dX11_feed_89 (by decide) ?_
  refine a_bipush (v := 8) dX11_feed_91 (by decide) ?_
  refine a_iload dX11_feed_93 rfl ?_
  refine a_iconst (v := 4) dX11_feed_95 (by decide) ?_
  refine a_irem dX11_feed_96 (by decide) ?_
  refine a_st (st2 := [.int 3, .int 8, .int 24, .int d, .int 15, .ref 109]) (by first | decide +kernel | (refine congrArg (fun z => Value.int z :: [.int 8, .int 24, .int d, .int 15, .ref 109]) ?_; decide +kernel) | (refine congrArg (fun z => Value.long z :: [.int 8, .int 24, .int d, .int 15, .ref 109]) ?_; decide +kernel)) ?_
  refine a_imul dX11_feed_97 ?_
  refine a_st (st2 := [.int 24, .int 24, .int d, .int 15, .ref 109]) (by first | decide +kernel | (refine congrArg (fun z => Value.int z :: [.int 24, .int d, .int 15, .ref 109]) ?_; decide +kernel) | (refine congrArg (fun z => Value.long z :: [.int 24, .int d, .int 15, .ref 109]) ?_; decide +kernel)) ?_
  refine a_isub dX11_feed_98 ?_
  refine a_st (st2 := [.int 0, .int d, .int 15, .ref 109]) (by first | decide +kernel | (refine congrArg (fun z => Value.int z :: [.int d, .int 15, .ref 109]) ?_; decide +kernel) | (refine congrArg (fun z => Value.long z :: [.int d, .int 15, .ref 109]) ?_; decide +kernel)) ?_
  refine a_ishr dX11_feed_99 ?_
  refine a_i2b dX11_feed_100 ?_
  refine a_bastore0 dX11_feed_101 (cm_l h31 (by decide)) (cm_s h31 (by decide) rfl) (by unfold vp_in; decide +kernel) ?_
  rw [show Int32.toNatClampNeg 15 = 15 from by decide +kernel]
  have h32 : Cm (up2 (up2 (up2 (up2 (up2 (up2 (up2 (up2 (up2 (up2 (up2 (up2 (up2 (up2 (up2 (up2 (up2 (up2 (up2 (up2 (up2 (up2 (up2 (up2 (up2 (up2 (up2 (up2 (up2 (up2 (up2 (up2 fs42 89 0 0) 109 0 ((Int32.toInt8 ((Int32.toInt8 (a >>> (24 &&& 31))).toInt32)).toInt32)) 89 27 1) 109 1 ((Int32.toInt8 ((Int32.toInt8 (a >>> (16 &&& 31))).toInt32)).toInt32)) 89 27 2) 109 2 ((Int32.toInt8 ((Int32.toInt8 (a >>> (8 &&& 31))).toInt32)).toInt32)) 89 27 3) 109 3 ((Int32.toInt8 ((Int32.toInt8 (a >>> (0 &&& 31))).toInt32)).toInt32)) 89 27 4) 109 4 ((Int32.toInt8 ((Int32.toInt8 (b >>> (24 &&& 31))).toInt32)).toInt32)) 89 27 5) 109 5 ((Int32.toInt8 ((Int32.toInt8 (b >>> (16 &&& 31))).toInt32)).toInt32)) 89 27 6) 109 6 ((Int32.toInt8 ((Int32.toInt8 (b >>> (8 &&& 31))).toInt32)).toInt32)) 89 27 7) 109 7 ((Int32.toInt8 ((Int32.toInt8 (b >>> (0 &&& 31))).toInt32)).toInt32)) 89 27 8) 109 8 ((Int32.toInt8 ((Int32.toInt8 (c >>> (24 &&& 31))).toInt32)).toInt32)) 89 27 9) 109 9 ((Int32.toInt8 ((Int32.toInt8 (c >>> (16 &&& 31))).toInt32)).toInt32)) 89 27 10) 109 10 ((Int32.toInt8 ((Int32.toInt8 (c >>> (8 &&& 31))).toInt32)).toInt32)) 89 27 11) 109 11 ((Int32.toInt8 ((Int32.toInt8 (c >>> (0 &&& 31))).toInt32)).toInt32)) 89 27 12) 109 12 ((Int32.toInt8 ((Int32.toInt8 (d >>> (24 &&& 31))).toInt32)).toInt32)) 89 27 13) 109 13 ((Int32.toInt8 ((Int32.toInt8 (d >>> (16 &&& 31))).toInt32)).toInt32)) 89 27 14) 109 14 ((Int32.toInt8 ((Int32.toInt8 (d >>> (8 &&& 31))).toInt32)).toInt32)) 89 27 15) 109 15 ((Int32.toInt8 ((Int32.toInt8 (d >>> (0 &&& 31))).toInt32)).toInt32)) (wI M31 109 15 ((Int32.toInt8 ((Int32.toInt8 (d >>> (0 &&& 31))).toInt32)).toInt32)) := cm_I h31 (by decide)
  generalize (wI M31 109 15 ((Int32.toInt8 ((Int32.toInt8 (d >>> (0 &&& 31))).toInt32)).toInt32)) = M32 at h32 ⊢
  refine a_aload_n dX11_feed_102 rfl rfl ?_
  refine a_dup dX11_feed_103 rfl ?_
  refine a_get (v := .int 15) dX11_feed_104 fl_11_154 (cm_l h32 (by decide)) (cm_s h32 (by decide) rfl) (cm_gi h32 rfl (by decide) (by first | decide +kernel | rfl)) ?_
  refine a_iconst (v := 1) dX11_feed_107 (by decide) ?_
  refine a_iadd dX11_feed_108 ?_
  refine a_st (st2 := [.int 16, .ref 89]) (by first | decide +kernel | (refine congrArg (fun z => Value.int z :: [.ref 89]) ?_; decide +kernel) | (refine congrArg (fun z => Value.long z :: [.ref 89]) ?_; decide +kernel)) ?_
  refine a_putI dX11_feed_109 (Or.inl ⟨fl_11_154, Or.inl rfl⟩) rfl (cm_l h32 (by decide)) (cm_s h32 (by decide) rfl) rfl rfl ?_
  have h33 : Cm (up2 (up2 (up2 (up2 (up2 (up2 (up2 (up2 (up2 (up2 (up2 (up2 (up2 (up2 (up2 (up2 (up2 (up2 (up2 (up2 (up2 (up2 (up2 (up2 (up2 (up2 (up2 (up2 (up2 (up2 (up2 (up2 (up2 fs42 89 0 0) 109 0 ((Int32.toInt8 ((Int32.toInt8 (a >>> (24 &&& 31))).toInt32)).toInt32)) 89 27 1) 109 1 ((Int32.toInt8 ((Int32.toInt8 (a >>> (16 &&& 31))).toInt32)).toInt32)) 89 27 2) 109 2 ((Int32.toInt8 ((Int32.toInt8 (a >>> (8 &&& 31))).toInt32)).toInt32)) 89 27 3) 109 3 ((Int32.toInt8 ((Int32.toInt8 (a >>> (0 &&& 31))).toInt32)).toInt32)) 89 27 4) 109 4 ((Int32.toInt8 ((Int32.toInt8 (b >>> (24 &&& 31))).toInt32)).toInt32)) 89 27 5) 109 5 ((Int32.toInt8 ((Int32.toInt8 (b >>> (16 &&& 31))).toInt32)).toInt32)) 89 27 6) 109 6 ((Int32.toInt8 ((Int32.toInt8 (b >>> (8 &&& 31))).toInt32)).toInt32)) 89 27 7) 109 7 ((Int32.toInt8 ((Int32.toInt8 (b >>> (0 &&& 31))).toInt32)).toInt32)) 89 27 8) 109 8 ((Int32.toInt8 ((Int32.toInt8 (c >>> (24 &&& 31))).toInt32)).toInt32)) 89 27 9) 109 9 ((Int32.toInt8 ((Int32.toInt8 (c >>> (16 &&& 31))).toInt32)).toInt32)) 89 27 10) 109 10 ((Int32.toInt8 ((Int32.toInt8 (c >>> (8 &&& 31))).toInt32)).toInt32)) 89 27 11) 109 11 ((Int32.toInt8 ((Int32.toInt8 (c >>> (0 &&& 31))).toInt32)).toInt32)) 89 27 12) 109 12 ((Int32.toInt8 ((Int32.toInt8 (d >>> (24 &&& 31))).toInt32)).toInt32)) 89 27 13) 109 13 ((Int32.toInt8 ((Int32.toInt8 (d >>> (16 &&& 31))).toInt32)).toInt32)) 89 27 14) 109 14 ((Int32.toInt8 ((Int32.toInt8 (d >>> (8 &&& 31))).toInt32)).toInt32)) 89 27 15) 109 15 ((Int32.toInt8 ((Int32.toInt8 (d >>> (0 &&& 31))).toInt32)).toInt32)) 89 27 16) (wI M32 89 27 16) := cm_I h32 (by decide)
  generalize (wI M32 89 27 16) = M33 at h33 ⊢
  refine a_iinc (v := 16) dX11_feed_112 rfl (by decide) (Nat.le_of_ble_eq_true rfl) (lv2 := [(6, .int 16), (7, .int d), (0, .ref 89), (1, .int a), (2, .int b), (3, .int c), (4, .int d), (5, .int e)]) rfl ?_
  refine a_goto 24 dX11_feed_115 (by decide) ?_
  refine a_iload dX11_feed_24 rfl ?_
  refine a_bipush (v := 20) dX11_feed_26 (by decide) ?_
  refine a_icmp_ge 118 dX11_feed_28 (by decide) (fun c => absurd c (by decide)) (fun _ => ?_)
  refine a_iload dX11_feed_31 rfl ?_
  refine a_iconst (v := 4) dX11_feed_33 (by decide) ?_
  refine a_icmp_ge 41 dX11_feed_34 (by decide) (fun _ => ?_) (fun c => absurd (by decide) c)
  refine a_iload dX11_feed_41 rfl ?_
  refine a_bipush (v := 8) dX11_feed_43 (by decide) ?_
  refine a_icmp_ge 52 dX11_feed_45 (by decide) (fun _ => ?_) (fun c => absurd (by decide) c)
  refine a_iload dX11_feed_52 rfl ?_
  refine a_bipush (v := 12) dX11_feed_54 (by decide) ?_
  refine a_icmp_ge 63 dX11_feed_56 (by decide) (fun _ => ?_) (fun c => absurd (by decide) c)
  refine a_iload dX11_feed_63 rfl ?_
  refine a_bipush (v := 16) dX11_feed_65 (by decide) ?_
  refine a_icmp_ge 75 dX11_feed_67 (by decide) (fun _ => ?_) (fun c => absurd (by decide) c)
  refine a_iload dX11_feed_75 rfl ?_
  refine a_istore dX11_feed_77 (Nat.le_of_ble_eq_true rfl) (lv2 := [(7, .int e), (6, .int 16), (0, .ref 89), (1, .int a), (2, .int b), (3, .int c), (4, .int d), (5, .int e)]) rfl ?_
  refine a_aload_n dX11_feed_79 rfl rfl ?_
  refine a_get (v := .ref 109) dX11_feed_80 fl_11_71 (cm_l h33 (by decide)) (cm_s h33 (by decide) rfl) (cm_g h33 rfl (by decide +kernel)) ?_
  refine a_aload_n dX11_feed_83 rfl rfl ?_
  refine a_get (v := .int 16) dX11_feed_84 fl_11_154 (cm_l h33 (by decide)) (cm_s h33 (by decide) rfl) (cm_gi h33 rfl (by decide) (by first | decide +kernel | rfl)) ?_
  refine a_iload dX11_feed_87 rfl ?_
  refine a_bipush (v := 24) dX11_feed_89 (by decide) ?_
  refine a_bipush (v := 8) dX11_feed_91 (by decide) ?_
  refine a_iload dX11_feed_93 rfl ?_
  refine a_iconst (v := 4) dX11_feed_95 (by decide) ?_
  refine a_irem dX11_feed_96 (by decide) ?_
  refine a_st (st2 := [.int 0, .int 8, .int 24, .int e, .int 16, .ref 109]) (by first | decide +kernel | (refine congrArg (fun z => Value.int z :: [.int 8, .int 24, .int e, .int 16, .ref 109]) ?_; decide +kernel) | (refine congrArg (fun z => Value.long z :: [.int 8, .int 24, .int e, .int 16, .ref 109]) ?_; decide +kernel)) ?_
  refine a_imul dX11_feed_97 ?_
  refine a_st (st2 := [.int 0, .int 24, .int e, .int 16, .ref 109]) (by first | decide +kernel | (refine congrArg (fun z => Value.int z :: [.int 24, .int e, .int 16, .ref 109]) ?_; decide +kernel) | (refine congrArg (fun z => Value.long z :: [.int 24, .int e, .int 16, .ref 109]) ?_; decide +kernel)) ?_
  refine a_isub dX11_feed_98 ?_
  refine a_st (st2 := [.int 24, .int e, .int 16, .ref 109]) (by first | decide +kernel | (refine congrArg (fun z => Value.int z :: [.int e, .int 16, .ref 109]) ?_; decide +kernel) | (refine congrArg (fun z => Value.long z :: [.int e, .int 16, .ref 109]) ?_; decide +kernel)) ?_
  refine a_ishr dX11_feed_99 ?_
  refine a_i2b dX11_feed_100 ?_
  refine a_bastore0 dX11_feed_101 (cm_l h33 (by decide)) (cm_s h33 (by decide) rfl) (by unfold vp_in; decide +kernel) ?_
  rw [show Int32.toNatClampNeg 16 = 16 from by decide +kernel]
  have h34 : Cm (up2 (up2 (up2 (up2 (up2 (up2 (up2 (up2 (up2 (up2 (up2 (up2 (up2 (up2 (up2 (up2 (up2 (up2 (up2 (up2 (up2 (up2 (up2 (up2 (up2 (up2 (up2 (up2 (up2 (up2 (up2 (up2 (up2 (up2 fs42 89 0 0) 109 0 ((Int32.toInt8 ((Int32.toInt8 (a >>> (24 &&& 31))).toInt32)).toInt32)) 89 27 1) 109 1 ((Int32.toInt8 ((Int32.toInt8 (a >>> (16 &&& 31))).toInt32)).toInt32)) 89 27 2) 109 2 ((Int32.toInt8 ((Int32.toInt8 (a >>> (8 &&& 31))).toInt32)).toInt32)) 89 27 3) 109 3 ((Int32.toInt8 ((Int32.toInt8 (a >>> (0 &&& 31))).toInt32)).toInt32)) 89 27 4) 109 4 ((Int32.toInt8 ((Int32.toInt8 (b >>> (24 &&& 31))).toInt32)).toInt32)) 89 27 5) 109 5 ((Int32.toInt8 ((Int32.toInt8 (b >>> (16 &&& 31))).toInt32)).toInt32)) 89 27 6) 109 6 ((Int32.toInt8 ((Int32.toInt8 (b >>> (8 &&& 31))).toInt32)).toInt32)) 89 27 7) 109 7 ((Int32.toInt8 ((Int32.toInt8 (b >>> (0 &&& 31))).toInt32)).toInt32)) 89 27 8) 109 8 ((Int32.toInt8 ((Int32.toInt8 (c >>> (24 &&& 31))).toInt32)).toInt32)) 89 27 9) 109 9 ((Int32.toInt8 ((Int32.toInt8 (c >>> (16 &&& 31))).toInt32)).toInt32)) 89 27 10) 109 10 ((Int32.toInt8 ((Int32.toInt8 (c >>> (8 &&& 31))).toInt32)).toInt32)) 89 27 11) 109 11 ((Int32.toInt8 ((Int32.toInt8 (c >>> (0 &&& 31))).toInt32)).toInt32)) 89 27 12) 109 12 ((Int32.toInt8 ((Int32.toInt8 (d >>> (24 &&& 31))).toInt32)).toInt32)) 89 27 13) 109 13 ((Int32.toInt8 ((Int32.toInt8 (d >>> (16 &&& 31))).toInt32)).toInt32)) 89 27 14) 109 14 ((Int32.toInt8 ((Int32.toInt8 (d >>> (8 &&& 31))).toInt32)).toInt32)) 89 27 15) 109 15 ((Int32.toInt8 ((Int32.toInt8 (d >>> (0 &&& 31))).toInt32)).toInt32)) 89 27 16) 109 16 ((Int32.toInt8 ((Int32.toInt8 (e >>> (24 &&& 31))).toInt32)).toInt32)) (wI M33 109 16 ((Int32.toInt8 ((Int32.toInt8 (e >>> (24 &&& 31))).toInt32)).toInt32)) := cm_I h33 (by decide)
  generalize (wI M33 109 16 ((Int32.toInt8 ((Int32.toInt8 (e >>> (24 &&& 31))).toInt32)).toInt32)) = M34 at h34 ⊢
  refine a_aload_n dX11_feed_102 rfl rfl ?_
  refine a_dup dX11_feed_103 rfl ?_
  refine a_get (v := .int 16) dX11_feed_104 fl_11_154 (cm_l h34 (by decide)) (cm_s h34 (by decide) rfl) (cm_gi h34 rfl (by decide) (by first | decide +kernel | rfl)) ?_
  refine a_iconst (v := 1) dX11_feed_107 (by decide) ?_
  refine a_iadd dX11_feed_108 ?_
  refine a_st (st2 := [.int 17, .ref 89]) (by first | decide +kernel | (refine congrArg (fun z => Value.int z :: [.ref 89]) ?_; decide +kernel) | (refine congrArg (fun z => Value.long z :: [.ref 89]) ?_; decide +kernel)) ?_
  refine a_putI dX11_feed_109 (Or.inl ⟨fl_11_154, Or.inl rfl⟩) rfl (cm_l h34 (by decide)) (cm_s h34 (by decide) rfl) rfl rfl ?_
  have h35 : Cm (up2 (up2 (up2 (up2 (up2 (up2 (up2 (up2 (up2 (up2 (up2 (up2 (up2 (up2 (up2 (up2 (up2 (up2 (up2 (up2 (up2 (up2 (up2 (up2 (up2 (up2 (up2 (up2 (up2 (up2 (up2 (up2 (up2 (up2 (up2 fs42 89 0 0) 109 0 ((Int32.toInt8 ((Int32.toInt8 (a >>> (24 &&& 31))).toInt32)).toInt32)) 89 27 1) 109 1 ((Int32.toInt8 ((Int32.toInt8 (a >>> (16 &&& 31))).toInt32)).toInt32)) 89 27 2) 109 2 ((Int32.toInt8 ((Int32.toInt8 (a >>> (8 &&& 31))).toInt32)).toInt32)) 89 27 3) 109 3 ((Int32.toInt8 ((Int32.toInt8 (a >>> (0 &&& 31))).toInt32)).toInt32)) 89 27 4) 109 4 ((Int32.toInt8 ((Int32.toInt8 (b >>> (24 &&& 31))).toInt32)).toInt32)) 89 27 5) 109 5 ((Int32.toInt8 ((Int32.toInt8 (b >>> (16 &&& 31))).toInt32)).toInt32)) 89 27 6) 109 6 ((Int32.toInt8 ((Int32.toInt8 (b >>> (8 &&& 31))).toInt32)).toInt32)) 89 27 7) 109 7 ((Int32.toInt8 ((Int32.toInt8 (b >>> (0 &&& 31))).toInt32)).toInt32)) 89 27 8) 109 8 ((Int32.toInt8 ((Int32.toInt8 (c >>> (24 &&& 31))).toInt32)).toInt32)) 89 27 9) 109 9 ((Int32.toInt8 ((Int32.toInt8 (c >>> (16 &&& 31))).toInt32)).toInt32)) 89 27 10) 109 10 ((Int32.toInt8 ((Int32.toInt8 (c >>> (8 &&& 31))).toInt32)).toInt32)) 89 27 11) 109 11 ((Int32.toInt8 ((Int32.toInt8 (c >>> (0 &&& 31))).toInt32)).toInt32)) 89 27 12) 109 12 ((Int32.toInt8 ((Int32.toInt8 (d >>> (24 &&& 31))).toInt32)).toInt32)) 89 27 13) 109 13 ((Int32.toInt8 ((Int32.toInt8 (d >>> (16 &&& 31))).toInt32)).toInt32)) 89 27 14) 109 14 ((Int32.toInt8 ((Int32.toInt8 (d >>> (8 &&& 31))).toInt32)).toInt32)) 89 27 15) 109 15 ((Int32.toInt8 ((Int32.toInt8 (d >>> (0 &&& 31))).toInt32)).toInt32)) 89 27 16) 109 16 ((Int32.toInt8 ((Int32.toInt8 (e >>> (24 &&& 31))).toInt32)).toInt32)) 89 27 17) (wI M34 89 27 17) := cm_I h34 (by decide)
  generalize (wI M34 89 27 17) = M35 at h35 ⊢
  refine a_iinc (v := 17) dX11_feed_112 rfl (by decide) (Nat.le_of_ble_eq_true rfl) (lv2 := [(6, .int 17), (7, .int e), (0, .ref 89), (1, .int a), (2, .int b), (3, .int c), (4, .int d), (5, .int e)]) rfl ?_
  refine a_goto 24 dX11_feed_115 (by decide) ?_
  refine a_iload dX11_feed_24 rfl ?_
  refine a_bipush (v := 20) dX11_feed_26 (by decide) ?_
  refine a_icmp_ge 118 dX11_feed_28 (by decide) (fun c => absurd c (by decide)) (fun _ => ?_)
  refine a_iload dX11_feed_31 rfl ?_
  refine a_iconst (v := 4) dX11_feed_33 (by decide) ?_
  refine a_icmp_ge 41 dX11_feed_34 (by decide) (fun _ => ?_) (fun c => absurd (by decide) c)
  refine a_iload dX11_feed_41 rfl ?_
  refine a_bipush (v := 8) dX11_feed_43 (by decide) ?_
  refine a_icmp_ge 52 dX11_feed_45 (by decide) (fun _ => ?_) (fun c => absurd (by decide) c)
  refine a_iload dX11_feed_52 rfl ?_
  refine a_bipush (v := 12) dX11_feed_54 (by decide) ?_
  refine a_icmp_ge 63 dX11_feed_56 (by decide) (fun _ => ?_) (fun c => absurd (by decide) c)
  refine a_iload dX11_feed_63 rfl ?_
  refine a_bipush (v := 16) dX11_feed_65 (by decide) ?_
  refine a_icmp_ge 75 dX11_feed_67 (by decide) (fun _ => ?_) (fun c => absurd (by decide) c)
  refine a_iload dX11_feed_75 rfl ?_
  refine a_istore dX11_feed_77 (Nat.le_of_ble_eq_true rfl) (lv2 := [(7, .int e), (6, .int 17), (0, .ref 89), (1, .int a), (2, .int b), (3, .int c), (4, .int d), (5, .int e)]) rfl ?_
  refine a_aload_n dX11_feed_79 rfl rfl ?_
  refine a_get (v := .ref 109) dX11_feed_80 fl_11_71 (cm_l h35 (by decide)) (cm_s h35 (by decide) rfl) (cm_g h35 rfl (by decide +kernel)) ?_
  refine a_aload_n dX11_feed_83 rfl rfl ?_
  refine a_get (v := .int 17) dX11_feed_84 fl_11_154 (cm_l h35 (by decide)) (cm_s h35 (by decide) rfl) (cm_gi h35 rfl (by decide) (by first | decide +kernel | rfl)) ?_
  refine a_iload dX11_feed_87 rfl ?_
  refine a_bipush (v := 24) dX11_feed_89 (by decide) ?_
  refine a_bipush (v := 8) dX11_feed_91 (by decide) ?_
  refine a_iload dX11_feed_93 rfl ?_
  refine a_iconst (v := 4) dX11_feed_95 (by decide) ?_
  refine a_irem dX11_feed_96 (by decide) ?_
  refine a_st (st2 := [.int 1, .int 8, .int 24, .int e, .int 17, .ref 109]) (by first | decide +kernel | (refine congrArg (fun z => Value.int z :: [.int 8, .int 24, .int e, .int 17, .ref 109]) ?_; decide +kernel) | (refine congrArg (fun z => Value.long z :: [.int 8, .int 24, .int e, .int 17, .ref 109]) ?_; decide +kernel)) ?_
  refine a_imul dX11_feed_97 ?_
  refine a_st (st2 := [.int 8, .int 24, .int e, .int 17, .ref 109]) (by first | decide +kernel | (refine congrArg (fun z => Value.int z :: [.int 24, .int e, .int 17, .ref 109]) ?_; decide +kernel) | (refine congrArg (fun z => Value.long z :: [.int 24, .int e, .int 17, .ref 109]) ?_; decide +kernel)) ?_
  refine a_isub dX11_feed_98 ?_
  refine a_st (st2 := [.int 16, .int e, .int 17, .ref 109]) (by first | decide +kernel | (refine congrArg (fun z => Value.int z :: [.int e, .int 17, .ref 109]) ?_; decide +kernel) | (refine congrArg (fun z => Value.long z :: [.int e, .int 17, .ref 109]) ?_; decide +kernel)) ?_
  refine a_ishr dX11_feed_99 ?_
  refine a_i2b dX11_feed_100 ?_
  refine a_bastore0 dX11_feed_101 (cm_l h35 (by decide)) (cm_s h35 (by decide) rfl) (by unfold vp_in; decide +kernel) ?_
  rw [show Int32.toNatClampNeg 17 = 17 from by decide +kernel]
  have h36 : Cm (up2 (up2 (up2 (up2 (up2 (up2 (up2 (up2 (up2 (up2 (up2 (up2 (up2 (up2 (up2 (up2 (up2 (up2 (up2 (up2 (up2 (up2 (up2 (up2 (up2 (up2 (up2 (up2 (up2 (up2 (up2 (up2 (up2 (up2 (up2 (up2 fs42 89 0 0) 109 0 ((Int32.toInt8 ((Int32.toInt8 (a >>> (24 &&& 31))).toInt32)).toInt32)) 89 27 1) 109 1 ((Int32.toInt8 ((Int32.toInt8 (a >>> (16 &&& 31))).toInt32)).toInt32)) 89 27 2) 109 2 ((Int32.toInt8 ((Int32.toInt8 (a >>> (8 &&& 31))).toInt32)).toInt32)) 89 27 3) 109 3 ((Int32.toInt8 ((Int32.toInt8 (a >>> (0 &&& 31))).toInt32)).toInt32)) 89 27 4) 109 4 ((Int32.toInt8 ((Int32.toInt8 (b >>> (24 &&& 31))).toInt32)).toInt32)) 89 27 5) 109 5 ((Int32.toInt8 ((Int32.toInt8 (b >>> (16 &&& 31))).toInt32)).toInt32)) 89 27 6) 109 6 ((Int32.toInt8 ((Int32.toInt8 (b >>> (8 &&& 31))).toInt32)).toInt32)) 89 27 7) 109 7 ((Int32.toInt8 ((Int32.toInt8 (b >>> (0 &&& 31))).toInt32)).toInt32)) 89 27 8) 109 8 ((Int32.toInt8 ((Int32.toInt8 (c >>> (24 &&& 31))).toInt32)).toInt32)) 89 27 9) 109 9 ((Int32.toInt8 ((Int32.toInt8 (c >>> (16 &&& 31))).toInt32)).toInt32)) 89 27 10) 109 10 ((Int32.toInt8 ((Int32.toInt8 (c >>> (8 &&& 31))).toInt32)).toInt32)) 89 27 11) 109 11 ((Int32.toInt8 ((Int32.toInt8 (c >>> (0 &&& 31))).toInt32)).toInt32)) 89 27 12) 109 12 ((Int32.toInt8 ((Int32.toInt8 (d >>> (24 &&& 31))).toInt32)).toInt32)) 89 27 13) 109 13 ((Int32.toInt8 ((Int32.toInt8 (d >>> (16 &&& 31))).toInt32)).toInt32)) 89 27 14) 109 14 ((Int32.toInt8 ((Int32.toInt8 (d >>> (8 &&& 31))).toInt32)).toInt32)) 89 27 15) 109 15 ((Int32.toInt8 ((Int32.toInt8 (d >>> (0 &&& 31))).toInt32)).toInt32)) 89 27 16) 109 16 ((Int32.toInt8 ((Int32.toInt8 (e >>> (24 &&& 31))).toInt32)).toInt32)) 89 27 17) 109 17 ((Int32.toInt8 ((Int32.toInt8 (e >>> (16 &&& 31))).toInt32)).toInt32)) (wI M35 109 17 ((Int32.toInt8 ((Int32.toInt8 (e >>> (16 &&& 31))).toInt32)).toInt32)) := cm_I h35 (by decide)
  generalize (wI M35 109 17 ((Int32.toInt8 ((Int32.toInt8 (e >>> (16 &&& 31))).toInt32)).toInt32)) = M36 at h36 ⊢
  refine a_aload_n dX11_feed_102 rfl rfl ?_
  refine a_dup dX11_feed_103 rfl ?_
  refine a_get (v := .int 17) dX11_feed_104 fl_11_154 (cm_l h36 (by decide)) (cm_s h36 (by decide) rfl) (cm_gi h36 rfl (by decide) (by first | decide +kernel | rfl)) ?_
  refine a_iconst (v := 1) dX11_feed_107 (by decide) ?_
  refine a_iadd dX11_feed_108 ?_
  refine a_st (st2 := [.int 18, .ref 89]) (by first | decide +kernel | (refine congrArg (fun z => Value.int z :: [.ref 89]) ?_; decide +kernel) | (refine congrArg (fun z => Value.long z :: [.ref 89]) ?_; decide +kernel)) ?_
  refine a_putI dX11_feed_109 (Or.inl ⟨fl_11_154, Or.inl rfl⟩) rfl (cm_l h36 (by decide)) (cm_s h36 (by decide) rfl) rfl rfl ?_
  have h37 : Cm (up2 (up2 (up2 (up2 (up2 (up2 (up2 (up2 (up2 (up2 (up2 (up2 (up2 (up2 (up2 (up2 (up2 (up2 (up2 (up2 (up2 (up2 (up2 (up2 (up2 (up2 (up2 (up2 (up2 (up2 (up2 (up2 (up2 (up2 (up2 (up2 (up2 fs42 89 0 0) 109 0 ((Int32.toInt8 ((Int32.toInt8 (a >>> (24 &&& 31))).toInt32)).toInt32)) 89 27 1) 109 1 ((Int32.toInt8 ((Int32.toInt8 (a >>> (16 &&& 31))).toInt32)).toInt32)) 89 27 2) 109 2 ((Int32.toInt8 ((Int32.toInt8 (a >>> (8 &&& 31))).toInt32)).toInt32)) 89 27 3) 109 3 ((Int32.toInt8 ((Int32.toInt8 (a >>> (0 &&& 31))).toInt32)).toInt32)) 89 27 4) 109 4 ((Int32.toInt8 ((Int32.toInt8 (b >>> (24 &&& 31))).toInt32)).toInt32)) 89 27 5) 109 5 ((Int32.toInt8 ((Int32.toInt8 (b >>> (16 &&& 31))).toInt32)).toInt32)) 89 27 6) 109 6 ((Int32.toInt8 ((Int32.toInt8 (b >>> (8 &&& 31))).toInt32)).toInt32)) 89 27 7) 109 7 ((Int32.toInt8 ((Int32.toInt8 (b >>> (0 &&& 31))).toInt32)).toInt32)) 89 27 8) 109 8 ((Int32.toInt8 ((Int32.toInt8 (c >>> (24 &&& 31))).toInt32)).toInt32)) 89 27 9) 109 9 ((Int32.toInt8 ((Int32.toInt8 (c >>> (16 &&& 31))).toInt32)).toInt32)) 89 27 10) 109 10 ((Int32.toInt8 ((Int32.toInt8 (c >>> (8 &&& 31))).toInt32)).toInt32)) 89 27 11) 109 11 ((Int32.toInt8 ((Int32.toInt8 (c >>> (0 &&& 31))).toInt32)).toInt32)) 89 27 12) 109 12 ((Int32.toInt8 ((Int32.toInt8 (d >>> (24 &&& 31))).toInt32)).toInt32)) 89 27 13) 109 13 ((Int32.toInt8 ((Int32.toInt8 (d >>> (16 &&& 31))).toInt32)).toInt32)) 89 27 14) 109 14 ((Int32.toInt8 ((Int32.toInt8 (d >>> (8 &&& 31))).toInt32)).toInt32)) 89 27 15) 109 15 ((Int32.toInt8 ((Int32.toInt8 (d >>> (0 &&& 31))).toInt32)).toInt32)) 89 27 16) 109 16 ((Int32.toInt8 ((Int32.toInt8 (e >>> (24 &&& 31))).toInt32)).toInt32)) 89 27 17) 109 17 ((Int32.toInt8 ((Int32.toInt8 (e >>> (16 &&& 31))).toInt32)).toInt32)) 89 27 18) (wI M36 89 27 18) := cm_I h36 (by decide)
  generalize (wI M36 89 27 18) = M37 at h37 ⊢
  refine a_iinc (v := 18) dX11_feed_112 rfl (by decide) (Nat.le_of_ble_eq_true rfl) (lv2 := [(6, .int 18), (7, .int e), (0, .ref 89), (1, .int a), (2, .int b), (3, .int c), (4, .int d), (5, .int e)]) rfl ?_
  refine a_goto 24 dX11_feed_115 (by decide) ?_
  refine a_iload dX11_feed_24 rfl ?_
  refine a_bipush (v := 20) dX11_feed_26 (by decide) ?_
  refine a_icmp_ge 118 dX11_feed_28 (by decide) (fun c => absurd c (by decide)) (fun _ => ?_)
  refine a_iload dX11_feed_31 rfl ?_
  refine a_iconst (v := 4) dX11_feed_33 (by decide) ?_
  refine a_icmp_ge 41 dX11_feed_34 (by decide) (fun _ => ?_) (fun c => absurd (by decide) c)
  refine a_iload dX11_feed_41 rfl ?_
  refine a_bipush (v := 8) dX11_feed_43 (by decide) ?_
  refine a_icmp_ge 52 dX11_feed_45 (by decide) (fun _ => ?_) (fun c => absurd (by decide) c)
  refine a_iload dX11_feed_52 rfl ?_
  refine a_bipush (v := 12) dX11_feed_54 (by decide) ?_
  refine a_icmp_ge 63 dX11_feed_56 (by decide) (fun _ => ?_) (fun c => absurd (by decide) c)
  refine a_iload dX11_feed_63 rfl ?_
  refine a_bipush (v := 16) dX11_feed_65 (by decide) ?_
  refine a_icmp_ge 75 dX11_feed_67 (by decide) (fun _ => ?_) (fun c => absurd (by decide) c)
  refine a_iload dX11_feed_75 rfl ?_
  refine a_istore dX11_feed_77 (Nat.le_of_ble_eq_true rfl) (lv2 := [(7, .int e), (6, .int 18), (0, .ref 89), (1, .int a), (2, .int b), (3, .int c), (4, .int d), (5, .int e)]) rfl ?_
  refine a_aload_n dX11_feed_79 rfl rfl ?_
  refine a_get (v := .ref 109) dX11_feed_80 fl_11_71 (cm_l h37 (by decide)) (cm_s h37 (by decide) rfl) (cm_g h37 rfl (by decide +kernel)) ?_
  refine a_aload_n dX11_feed_83 rfl rfl ?_
  refine a_get (v := .int 18) dX11_feed_84 fl_11_154 (cm_l h37 (by decide)) (cm_s h37 (by decide) rfl) (cm_gi h37 rfl (by decide) (by first | decide +kernel | rfl)) ?_
  refine a_iload dX11_feed_87 rfl ?_
  refine a_bipush (v := 24) dX11_feed_89 (by decide) ?_
  refine a_bipush (v := 8) dX11_feed_91 (by decide) ?_
  refine a_iload dX11_feed_93 rfl ?_
  refine a_iconst (v := 4) dX11_feed_95 (by decide) ?_
  refine a_irem dX11_feed_96 (by decide) ?_
  refine a_st (st2 := [.int 2, .int 8, .int 24, .int e, .int 18, .ref 109]) (by first | decide +kernel | (refine congrArg (fun z => Value.int z :: [.int 8, .int 24, .int e, .int 18, .ref 109]) ?_; decide +kernel) | (refine congrArg (fun z => Value.long z :: [.int 8, .int 24, .int e, .int 18, .ref 109]) ?_; decide +kernel)) ?_
  refine a_imul dX11_feed_97 ?_
  refine a_st (st2 := [.int 16, .int 24, .int e, .int 18, .ref 109]) (by first | decide +kernel | (refine congrArg (fun z => Value.int z :: [.int 24, .int e, .int 18, .ref 109]) ?_; decide +kernel) | (refine congrArg (fun z => Value.long z :: [.int 24, .int e, .int 18, .ref 109]) ?_; decide +kernel)) ?_
  refine a_isub dX11_feed_98 ?_
  refine a_st (st2 := [.int 8, .int e, .int 18, .ref 109]) (by first | decide +kernel | (refine congrArg (fun z => Value.int z :: [.int e, .int 18, .ref 109]) ?_; decide +kernel) | (refine congrArg (fun z => Value.long z :: [.int e, .int 18, .ref 109]) ?_; decide +kernel)) ?_
  refine a_ishr dX11_feed_99 ?_
  refine a_i2b dX11_feed_100 ?_
  refine a_bastore0 dX11_feed_101 (cm_l h37 (by decide)) (cm_s h37 (by decide) rfl) (by unfold vp_in; decide +kernel) ?_
  rw [show Int32.toNatClampNeg 18 = 18 from by decide +kernel]
  have h38 : Cm (up2 (up2 (up2 (up2 (up2 (up2 (up2 (up2 (up2 (up2 (up2 (up2 (up2 (up2 (up2 (up2 (up2 (up2 (up2 (up2 (up2 (up2 (up2 (up2 (up2 (up2 (up2 (up2 (up2 (up2 (up2 (up2 (up2 (up2 (up2 (up2 (up2 (up2 fs42 89 0 0) 109 0 ((Int32.toInt8 ((Int32.toInt8 (a >>> (24 &&& 31))).toInt32)).toInt32)) 89 27 1) 109 1 ((Int32.toInt8 ((Int32.toInt8 (a >>> (16 &&& 31))).toInt32)).toInt32)) 89 27 2) 109 2 ((Int32.toInt8 ((Int32.toInt8 (a >>> (8 &&& 31))).toInt32)).toInt32)) 89 27 3) 109 3 ((Int32.toInt8 ((Int32.toInt8 (a >>> (0 &&& 31))).toInt32)).toInt32)) 89 27 4) 109 4 ((Int32.toInt8 ((Int32.toInt8 (b >>> (24 &&& 31))).toInt32)).toInt32)) 89 27 5) 109 5 ((Int32.toInt8 ((Int32.toInt8 (b >>> (16 &&& 31))).toInt32)).toInt32)) 89 27 6) 109 6 ((Int32.toInt8 ((Int32.toInt8 (b >>> (8 &&& 31))).toInt32)).toInt32)) 89 27 7) 109 7 ((Int32.toInt8 ((Int32.toInt8 (b >>> (0 &&& 31))).toInt32)).toInt32)) 89 27 8) 109 8 ((Int32.toInt8 ((Int32.toInt8 (c >>> (24 &&& 31))).toInt32)).toInt32)) 89 27 9) 109 9 ((Int32.toInt8 ((Int32.toInt8 (c >>> (16 &&& 31))).toInt32)).toInt32)) 89 27 10) 109 10 ((Int32.toInt8 ((Int32.toInt8 (c >>> (8 &&& 31))).toInt32)).toInt32)) 89 27 11) 109 11 ((Int32.toInt8 ((Int32.toInt8 (c >>> (0 &&& 31))).toInt32)).toInt32)) 89 27 12) 109 12 ((Int32.toInt8 ((Int32.toInt8 (d >>> (24 &&& 31))).toInt32)).toInt32)) 89 27 13) 109 13 ((Int32.toInt8 ((Int32.toInt8 (d >>> (16 &&& 31))).toInt32)).toInt32)) 89 27 14) 109 14 ((Int32.toInt8 ((Int32.toInt8 (d >>> (8 &&& 31))).toInt32)).toInt32)) 89 27 15) 109 15 ((Int32.toInt8 ((Int32.toInt8 (d >>> (0 &&& 31))).toInt32)).toInt32)) 89 27 16) 109 16 ((Int32.toInt8 ((Int32.toInt8 (e >>> (24 &&& 31))).toInt32)).toInt32)) 89 27 17) 109 17 ((Int32.toInt8 ((Int32.toInt8 (e >>> (16 &&& 31))).toInt32)).toInt32)) 89 27 18) 109 18 ((Int32.toInt8 ((Int32.toInt8 (e >>> (8 &&& 31))).toInt32)).toInt32)) (wI M37 109 18 ((Int32.toInt8 ((Int32.toInt8 (e >>> (8 &&& 31))).toInt32)).toInt32)) := cm_I h37 (by decide)
  generalize (wI M37 109 18 ((Int32.toInt8 ((Int32.toInt8 (e >>> (8 &&& 31))).toInt32)).toInt32)) = M38 at h38 ⊢
  refine a_aload_n dX11_feed_102 rfl rfl ?_
  refine a_dup dX11_feed_103 rfl ?_
  refine a_get (v := .int 18) dX11_feed_104 fl_11_154 (cm_l h38 (by decide)) (cm_s h38 (by decide) rfl) (cm_gi h38 rfl (by decide) (by first | decide +kernel | rfl)) ?_
  refine a_iconst (v := 1) dX11_feed_107 (by decide) ?_
  refine a_iadd dX11_feed_108 ?_
  refine a_st (st2 := [.int 19, .ref 89]) (by first | decide +kernel | (refine congrArg (fun z => Value.int z :: [.ref 89]) ?_; decide +kernel) | (refine congrArg (fun z => Value.long z :: [.ref 89]) ?_; decide +kernel)) ?_
  refine a_putI dX11_feed_109 (Or.inl ⟨fl_11_154, Or.inl rfl⟩) rfl (cm_l h38 (by decide)) (cm_s h38 (by decide) rfl) rfl rfl ?_
  have h39 : Cm (up2 (up2 (up2 (up2 (up2 (up2 (up2 (up2 (up2 (up2 (up2 (up2 (up2 (up2 (up2 (up2 (up2 (up2 (up2 (up2 (up2 (up2 (up2 (up2 (up2 (up2 (up2 (up2 (up2 (up2 (up2 (up2 (up2 (up2 (up2 (up2 (up2 (up2 (up2 fs42 89 0 0) 109 0 ((Int32.toInt8 ((Int32.toInt8 (a >>> (24 &&& 31))).toInt32)).toInt32)) 89 27 1) 109 1 ((Int32.toInt8 ((Int32.toInt8 (a >>> (16 &&& 31))).toInt32)).toInt32)) 89 27 2) 109 2 ((Int32.toInt8 ((Int32.toInt8 (a >>> (8 &&& 31))).toInt32)).toInt32)) 89 27 3) 109 3 ((Int32.toInt8 ((Int32.toInt8 (a >>> (0 &&& 31))).toInt32)).toInt32)) 89 27 4) 109 4 ((Int32.toInt8 ((Int32.toInt8 (b >>> (24 &&& 31))).toInt32)).toInt32)) 89 27 5) 109 5 ((Int32.toInt8 ((Int32.toInt8 (b >>> (16 &&& 31))).toInt32)).toInt32)) 89 27 6) 109 6 ((Int32.toInt8 ((Int32.toInt8 (b >>> (8 &&& 31))).toInt32)).toInt32)) 89 27 7) 109 7 ((Int32.toInt8 ((Int32.toInt8 (b >>> (0 &&& 31))).toInt32)).toInt32)) 89 27 8) 109 8 ((Int32.toInt8 ((Int32.toInt8 (c >>> (24 &&& 31))).toInt32)).toInt32)) 89 27 9) 109 9 ((Int32.toInt8 ((Int32.toInt8 (c >>> (16 &&& 31))).toInt32)).toInt32)) 89 27 10) 109 10 ((Int32.toInt8 ((Int32.toInt8 (c >>> (8 &&& 31))).toInt32)).toInt32)) 89 27 11) 109 11 ((Int32.toInt8 ((Int32.toInt8 (c >>> (0 &&& 31))).toInt32)).toInt32)) 89 27 12) 109 12 ((Int32.toInt8 ((Int32.toInt8 (d >>> (24 &&& 31))).toInt32)).toInt32)) 89 27 13) 109 13 ((Int32.toInt8 ((Int32.toInt8 (d >>> (16 &&& 31))).toInt32)).toInt32)) 89 27 14) 109 14 ((Int32.toInt8 ((Int32.toInt8 (d >>> (8 &&& 31))).toInt32)).toInt32)) 89 27 15) 109 15 ((Int32.toInt8 ((Int32.toInt8 (d >>> (0 &&& 31))).toInt32)).toInt32)) 89 27 16) 109 16 ((Int32.toInt8 ((Int32.toInt8 (e >>> (24 &&& 31))).toInt32)).toInt32)) 89 27 17) 109 17 ((Int32.toInt8 ((Int32.toInt8 (e >>> (16 &&& 31))).toInt32)).toInt32)) 89 27 18) 109 18 ((Int32.toInt8 ((Int32.toInt8 (e >>> (8 &&& 31))).toInt32)).toInt32)) 89 27 19) (wI M38 89 27 19) := cm_I h38 (by decide)
  generalize (wI M38 89 27 19) = M39 at h39 ⊢
  refine a_iinc (v := 19) dX11_feed_112 rfl (by decide) (Nat.le_of_ble_eq_true rfl) (lv2 := [(6, .int 19), (7, .int e), (0, .ref 89), (1, .int a), (2, .int b), (3, .int c), (4, .int d), (5, .int e)]) rfl ?_
  refine a_goto 24 dX11_feed_115 (by decide) ?_
  refine a_iload dX11_feed_24 rfl ?_
  refine a_bipush (v := 20) dX11_feed_26 (by decide) ?_
  refine a_icmp_ge 118 dX11_feed_28 (by decide) (fun c => absurd c (by decide)) (fun _ => ?_)
  refine a_iload dX11_feed_31 rfl ?_
  refine a_iconst (v := 4) dX11_feed_33 (by decide) ?_
  refine a_icmp_ge 41 dX11_feed_34 (by decide) (fun _ => ?_) (fun c => absurd (by decide) c)
  refine a_iload dX11_feed_41 rfl ?_
  refine a_bipush (v := 8) dX11_feed_43 (by decide) ?_
  refine a_icmp_ge 52 dX11_feed_45 (by decide) (fun _ => ?_) (fun c => absurd (by decide) c)
  refine a_iload dX11_feed_52 rfl ?_
  refine a_bipush (v := 12) dX11_feed_54 (by decide) ?_
  refine a_icmp_ge 63 dX11_feed_56 (by decide) (fun _ => ?_) (fun c => absurd (by decide) c)
  refine a_iload dX11_feed_63 rfl ?_
  refine a_bipush (v := 16) dX11_feed_65 (by decide) ?_
  refine a_icmp_ge 75 dX11_feed_67 (by decide) (fun _ => ?_) (fun c => absurd (by decide) c)
  refine a_iload dX11_feed_75 rfl ?_
  refine a_istore dX11_feed_77 (Nat.le_of_ble_eq_true rfl) (lv2 := [(7, .int e), (6, .int 19), (0, .ref 89), (1, .int a), (2, .int b), (3, .int c), (4, .int d), (5, .int e)]) rfl ?_
  refine a_aload_n dX11_feed_79 rfl rfl ?_
  refine a_get (v := .ref 109) dX11_feed_80 fl_11_71 (cm_l h39 (by decide)) (cm_s h39 (by decide) rfl) (cm_g h39 rfl (by decide +kernel)) ?_
  refine a_aload_n dX11_feed_83 rfl rfl ?_
  refine a_get (v := .int 19) dX11_feed_84 fl_11_154 (cm_l h39 (by decide)) (cm_s h39 (by decide) rfl) (cm_gi h39 rfl (by decide) (by first | decide +kernel | rfl)) ?_
  refine a_iload dX11_feed_87 rfl ?_
  refine a_bipush (v := 24) dX11_feed_89 (by decide) ?_
  refine a_bipush (v := 8) dX11_feed_91 (by decide) ?_
  refine a_iload dX11_feed_93 rfl ?_
  refine a_iconst (v := 4) dX11_feed_95 (by decide) ?_
  refine a_irem dX11_feed_96 (by decide) ?_
  refine a_st (st2 := [.int 3, .int 8, .int 24, .int e, .int 19, .ref 109]) (by first | decide +kernel | (refine congrArg (fun z => Value.int z :: [.int 8, .int 24, .int e, .int 19, .ref 109]) ?_; decide +kernel) | (refine congrArg (fun z => Value.long z :: [.int 8, .int 24, .int e, .int 19, .ref 109]) ?_; decide +kernel)) ?_
  refine a_imul dX11_feed_97 ?_
  refine a_st (st2 := [.int 24, .int 24, .int e, .int 19, .ref 109]) (by first | decide +kernel | (refine congrArg (fun z => Value.int z :: [.int 24, .int e, .int 19, .ref 109]) ?_; decide +kernel) | (refine congrArg (fun z => Value.long z :: [.int 24, .int e, .int 19, .ref 109]) ?_; decide +kernel)) ?_
  refine a_isub dX11_feed_98 ?_
  refine a_st (st2 := [.int 0, .int e, .int 19, .ref 109]) (by first | decide +kernel | (refine congrArg (fun z => Value.int z :: [.int e, .int 19, .ref 109]) ?_; decide +kernel) | (refine congrArg (fun z => Value.long z :: [.int e, .int 19, .ref 109]) ?_; decide +kernel)) ?_
  refine a_ishr dX11_feed_99 ?_
  refine a_i2b dX11_feed_100 ?_
  refine a_bastore0 dX11_feed_101 (cm_l h39 (by decide)) (cm_s h39 (by decide) rfl) (by unfold vp_in; decide +kernel) ?_
  rw [show Int32.toNatClampNeg 19 = 19 from by decide +kernel]
  have h40 : Cm (up2 (up2 (up2 (up2 (up2 (up2 (up2 (up2 (up2 (up2 (up2 (up2 (up2 (up2 (up2 (up2 (up2 (up2 (up2 (up2 (up2 (up2 (up2 (up2 (up2 (up2 (up2 (up2 (up2 (up2 (up2 (up2 (up2 (up2 (up2 (up2 (up2 (up2 (up2 (up2 fs42 89 0 0) 109 0 ((Int32.toInt8 ((Int32.toInt8 (a >>> (24 &&& 31))).toInt32)).toInt32)) 89 27 1) 109 1 ((Int32.toInt8 ((Int32.toInt8 (a >>> (16 &&& 31))).toInt32)).toInt32)) 89 27 2) 109 2 ((Int32.toInt8 ((Int32.toInt8 (a >>> (8 &&& 31))).toInt32)).toInt32)) 89 27 3) 109 3 ((Int32.toInt8 ((Int32.toInt8 (a >>> (0 &&& 31))).toInt32)).toInt32)) 89 27 4) 109 4 ((Int32.toInt8 ((Int32.toInt8 (b >>> (24 &&& 31))).toInt32)).toInt32)) 89 27 5) 109 5 ((Int32.toInt8 ((Int32.toInt8 (b >>> (16 &&& 31))).toInt32)).toInt32)) 89 27 6) 109 6 ((Int32.toInt8 ((Int32.toInt8 (b >>> (8 &&& 31))).toInt32)).toInt32)) 89 27 7) 109 7 ((Int32.toInt8 ((Int32.toInt8 (b >>> (0 &&& 31))).toInt32)).toInt32)) 89 27 8) 109 8 ((Int32.toInt8 ((Int32.toInt8 (c >>> (24 &&& 31))).toInt32)).toInt32)) 89 27 9) 109 9 ((Int32.toInt8 ((Int32.toInt8 (c >>> (16 &&& 31))).toInt32)).toInt32)) 89 27 10) 109 10 ((Int32.toInt8 ((Int32.toInt8 (c >>> (8 &&& 31))).toInt32)).toInt32)) 89 27 11) 109 11 ((Int32.toInt8 ((Int32.toInt8 (c >>> (0 &&& 31))).toInt32)).toInt32)) 89 27 12) 109 12 ((Int32.toInt8 ((Int32.toInt8 (d >>> (24 &&& 31))).toInt32)).toInt32)) 89 27 13) 109 13 ((Int32.toInt8 ((Int32.toInt8 (d >>> (16 &&& 31))).toInt32)).toInt32)) 89 27 14) 109 14 ((Int32.toInt8 ((Int32.toInt8 (d >>> (8 &&& 31))).toInt32)).toInt32)) 89 27 15) 109 15 ((Int32.toInt8 ((Int32.toInt8 (d >>> (0 &&& 31))).toInt32)).toInt32)) 89 27 16) 109 16 ((Int32.toInt8 ((Int32.toInt8 (e >>> (24 &&& 31))).toInt32)).toInt32)) 89 27 17) 109 17 ((Int32.toInt8 ((Int32.toInt8 (e >>> (16 &&& 31))).toInt32)).toInt32)) 89 27 18) 109 18 ((Int32.toInt8 ((Int32.toInt8 (e >>> (8 &&& 31))).toInt32)).toInt32)) 89 27 19) 109 19 ((Int32.toInt8 ((Int32.toInt8 (e >>> (0 &&& 31))).toInt32)).toInt32)) (wI M39 109 19 ((Int32.toInt8 ((Int32.toInt8 (e >>> (0 &&& 31))).toInt32)).toInt32)) := cm_I h39 (by decide)
  generalize (wI M39 109 19 ((Int32.toInt8 ((Int32.toInt8 (e >>> (0 &&& 31))).toInt32)).toInt32)) = M40 at h40 ⊢
  refine a_aload_n dX11_feed_102 rfl rfl ?_
  refine a_dup dX11_feed_103 rfl ?_
  refine a_get (v := .int 19) dX11_feed_104 fl_11_154 (cm_l h40 (by decide)) (cm_s h40 (by decide) rfl) (cm_gi h40 rfl (by decide) (by first | decide +kernel | rfl)) ?_
  refine a_iconst (v := 1) dX11_feed_107 (by decide) ?_
  refine a_iadd dX11_feed_108 ?_
  refine a_st (st2 := [.int 20, .ref 89]) (by first | decide +kernel | (refine congrArg (fun z => Value.int z :: [.ref 89]) ?_; decide +kernel) | (refine congrArg (fun z => Value.long z :: [.ref 89]) ?_; decide +kernel)) ?_
  refine a_putI dX11_feed_109 (Or.inl ⟨fl_11_154, Or.inl rfl⟩) rfl (cm_l h40 (by decide)) (cm_s h40 (by decide) rfl) rfl rfl ?_
  have h41 : Cm (up2 (up2 (up2 (up2 (up2 (up2 (up2 (up2 (up2 (up2 (up2 (up2 (up2 (up2 (up2 (up2 (up2 (up2 (up2 (up2 (up2 (up2 (up2 (up2 (up2 (up2 (up2 (up2 (up2 (up2 (up2 (up2 (up2 (up2 (up2 (up2 (up2 (up2 (up2 (up2 (up2 fs42 89 0 0) 109 0 ((Int32.toInt8 ((Int32.toInt8 (a >>> (24 &&& 31))).toInt32)).toInt32)) 89 27 1) 109 1 ((Int32.toInt8 ((Int32.toInt8 (a >>> (16 &&& 31))).toInt32)).toInt32)) 89 27 2) 109 2 ((Int32.toInt8 ((Int32.toInt8 (a >>> (8 &&& 31))).toInt32)).toInt32)) 89 27 3) 109 3 ((Int32.toInt8 ((Int32.toInt8 (a >>> (0 &&& 31))).toInt32)).toInt32)) 89 27 4) 109 4 ((Int32.toInt8 ((Int32.toInt8 (b >>> (24 &&& 31))).toInt32)).toInt32)) 89 27 5) 109 5 ((Int32.toInt8 ((Int32.toInt8 (b >>> (16 &&& 31))).toInt32)).toInt32)) 89 27 6) 109 6 ((Int32.toInt8 ((Int32.toInt8 (b >>> (8 &&& 31))).toInt32)).toInt32)) 89 27 7) 109 7 ((Int32.toInt8 ((Int32.toInt8 (b >>> (0 &&& 31))).toInt32)).toInt32)) 89 27 8) 109 8 ((Int32.toInt8 ((Int32.toInt8 (c >>> (24 &&& 31))).toInt32)).toInt32)) 89 27 9) 109 9 ((Int32.toInt8 ((Int32.toInt8 (c >>> (16 &&& 31))).toInt32)).toInt32)) 89 27 10) 109 10 ((Int32.toInt8 ((Int32.toInt8 (c >>> (8 &&& 31))).toInt32)).toInt32)) 89 27 11) 109 11 ((Int32.toInt8 ((Int32.toInt8 (c >>> (0 &&& 31))).toInt32)).toInt32)) 89 27 12) 109 12 ((Int32.toInt8 ((Int32.toInt8 (d >>> (24 &&& 31))).toInt32)).toInt32)) 89 27 13) 109 13 ((Int32.toInt8 ((Int32.toInt8 (d >>> (16 &&& 31))).toInt32)).toInt32)) 89 27 14) 109 14 ((Int32.toInt8 ((Int32.toInt8 (d >>> (8 &&& 31))).toInt32)).toInt32)) 89 27 15) 109 15 ((Int32.toInt8 ((Int32.toInt8 (d >>> (0 &&& 31))).toInt32)).toInt32)) 89 27 16) 109 16 ((Int32.toInt8 ((Int32.toInt8 (e >>> (24 &&& 31))).toInt32)).toInt32)) 89 27 17) 109 17 ((Int32.toInt8 ((Int32.toInt8 (e >>> (16 &&& 31))).toInt32)).toInt32)) 89 27 18) 109 18 ((Int32.toInt8 ((Int32.toInt8 (e >>> (8 &&& 31))).toInt32)).toInt32)) 89 27 19) 109 19 ((Int32.toInt8 ((Int32.toInt8 (e >>> (0 &&& 31))).toInt32)).toInt32)) 89 27 20) (wI M40 89 27 20) := cm_I h40 (by decide)
  generalize (wI M40 89 27 20) = M41 at h41 ⊢
  refine a_iinc (v := 20) dX11_feed_112 rfl (by decide) (Nat.le_of_ble_eq_true rfl) (lv2 := [(6, .int 20), (7, .int e), (0, .ref 89), (1, .int a), (2, .int b), (3, .int c), (4, .int d), (5, .int e)]) rfl ?_
  refine a_goto 24 dX11_feed_115 (by decide) ?_
  refine a_iload dX11_feed_24 rfl ?_
  refine a_bipush (v := 20) dX11_feed_26 (by decide) ?_
  refine a_icmp_ge 118 dX11_feed_28 (by decide) (fun _ => ?_) (fun c => absurd (by decide) c)
  refine a_aload_n dX11_feed_118 rfl rfl ?_
  refine a_get (v := .int 20) dX11_feed_119 fl_11_154 (cm_l h41 (by decide)) (cm_s h41 (by decide) rfl) (cm_gi h41 rfl (by decide) (by first | decide +kernel | rfl)) ?_
  exact a_iret dX11_feed_122 rfl ⟨by first | rfl | decide +kernel | simp [*], trivial⟩
set_option maxHeartbeats 4000000 in
set_option maxRecDepth 100000 in
theorem z2002_X11_tidies {X : Nat × (Nat → Int32)} {fr : Nat} {M : Mem}  (h0 : Cm (up2 fs42 89 0 0) M) : AM yX11_tidies cX11_tidies 4 none true (fr + 10) 0 0 X [.ref 89] M (fun v M1 => v = none ∧ Cm (up2 fs42 89 0 0) M1) := by
  refine AM.of false (by decide +kernel) (by intro h; cases h) (Nat.le_of_ble_eq_true rfl) ?_
  show AW X (RX11, cX11_tidies, 4, none, false, true, fr + 10) 0 0 0 [(0, .ref 89)] [] M _
  refine a_aload_n dX11_tidies_0 rfl rfl ?_
  refine a_get (v := .int 0) dX11_tidies_1 fl_11_140 (cm_l h0 (by decide)) (cm_s h0 (by decide) rfl) (cm_gi h0 rfl (by decide) (by first | decide +kernel | rfl)) ?_
  refine a_if_ne 17 dX11_tidies_4 (by decide) (fun c => absurd (by decide) c) (fun _ => ?_)
  refine a_aload_n dX11_tidies_7 rfl rfl ?_
  refine a_get (v := .int 1) dX11_tidies_8 fl_11_137 (cm_l h0 (by decide)) (cm_s h0 (by decide) rfl) (cm_gi h0 rfl (by decide) (by first | decide +kernel | rfl)) ?_
  refine a_sipush (v := 8192) dX11_tidies_11 (by decide) ?_
  refine a_icmp_ge 18 dX11_tidies_14 (by decide) (fun c => absurd c (by decide)) (fun _ => ?_)
  exact a_vret dX11_tidies_17 rfl ⟨rfl, h0⟩
set_option maxHeartbeats 4000000 in
set_option maxRecDepth 100000 in
theorem z2001_X11_begins {X : Nat × (Nat → Int32)} {fr : Nat} {M : Mem}  (h0 : Cm (up2 fs42 89 0 0) M) : AM yX11_begins cX11_begins 2 none true (fr + 11) 0 0 X [.ref 89, .int 0] M (fun v M1 => v = none ∧ Cm (up2 (up2 (up2 (up2 (up2 (up2 fs42 89 0 0) 89 27 0) 89 28 0) 89 29 0) 89 30 0) 89 31 (-1)) M1) := by
  refine AM.of false (by decide +kernel) (by intro h; cases h) (Nat.le_of_ble_eq_true rfl) ?_
  show AW X (RX11, cX11_begins, 2, none, false, true, fr + 11) 0 0 0 [(0, .ref 89), (1, .int 0)] [] M _
  refine a_aload_n dX11_begins_0 rfl rfl ?_
  refine a_callV (As := []) (st := []) (a := 89) (ci := 11) (bc := 0) (bs := 0) (mc := 0) (ms := 0) false dX11_begins_1 mw_X11_tidies rfl (Or.inl ⟨rfl, ml_X11_198⟩) im_X11_tidies se_X11_tidies (by decide) (cm_l h0 (by decide)) (cm_s h0 (by decide) rfl) rfl (Nat.le_of_ble_eq_true rfl) (z2002_X11_tidies (fr := fr)  h0) (fun v M1 hq => ?_)
  obtain ⟨rfl, h1⟩ := hq
  refine a_aload_n dX11_begins_4 rfl rfl ?_
  refine a_iconst (v := 0) dX11_begins_5 (by decide) ?_
  refine a_putI dX11_begins_6 (Or.inl ⟨fl_11_154, Or.inl rfl⟩) rfl (cm_l h1 (by decide)) (cm_s h1 (by decide) rfl) rfl rfl ?_
  have h2 : Cm (up2 (up2 fs42 89 0 0) 89 27 0) (wI M1 89 27 0) := cm_I h1 (by decide)
  generalize (wI M1 89 27 0) = M2 at h2 ⊢
  refine a_aload_n dX11_begins_9 rfl rfl ?_
  refine a_iload_n dX11_begins_10 rfl rfl ?_
  refine a_putI dX11_begins_11 (Or.inl ⟨fl_11_160, Or.inl rfl⟩) rfl (cm_l h2 (by decide)) (cm_s h2 (by decide) rfl) rfl rfl ?_
  have h3 : Cm (up2 (up2 (up2 fs42 89 0 0) 89 27 0) 89 28 0) (wI M2 89 28 0) := cm_I h2 (by decide)
  generalize (wI M2 89 28 0) = M3 at h3 ⊢
  refine a_aload_n dX11_begins_14 rfl rfl ?_
  refine a_iconst (v := 0) dX11_begins_15 (by decide) ?_
  refine a_putI dX11_begins_16 (Or.inl ⟨fl_11_157, Or.inl rfl⟩) rfl (cm_l h3 (by decide)) (cm_s h3 (by decide) rfl) rfl rfl ?_
  have h4 : Cm (up2 (up2 (up2 (up2 fs42 89 0 0) 89 27 0) 89 28 0) 89 29 0) (wI M3 89 29 0) := cm_I h3 (by decide)
  generalize (wI M3 89 29 0) = M4 at h4 ⊢
  refine a_aload_n dX11_begins_19 rfl rfl ?_
  refine a_iconst (v := 0) dX11_begins_20 (by decide) ?_
  refine a_putI dX11_begins_21 (Or.inl ⟨fl_11_163, Or.inl rfl⟩) rfl (cm_l h4 (by decide)) (cm_s h4 (by decide) rfl) rfl rfl ?_
  have h5 : Cm (up2 (up2 (up2 (up2 (up2 fs42 89 0 0) 89 27 0) 89 28 0) 89 29 0) 89 30 0) (wI M4 89 30 0) := cm_I h4 (by decide)
  generalize (wI M4 89 30 0) = M5 at h5 ⊢
  refine a_aload_n dX11_begins_24 rfl rfl ?_
  refine a_iconst (v := (-1)) dX11_begins_25 (by decide) ?_
  refine a_putI dX11_begins_26 (Or.inl ⟨fl_11_166, Or.inl rfl⟩) rfl (cm_l h5 (by decide)) (cm_s h5 (by decide) rfl) rfl rfl ?_
  have h6 : Cm (up2 (up2 (up2 (up2 (up2 (up2 fs42 89 0 0) 89 27 0) 89 28 0) 89 29 0) 89 30 0) 89 31 (-1)) (wI M5 89 31 (-1)) := cm_I h5 (by decide)
  generalize (wI M5 89 31 (-1)) = M6 at h6 ⊢
  exact a_vret dX11_begins_29 rfl ⟨rfl, h6⟩
set_option maxHeartbeats 4000000 in
set_option maxRecDepth 100000 in
theorem z2005_X11_peek {X : Nat × (Nat → Int32)} {fr : Nat} {M : Mem}  (h0 : Cm (up2 (up2 (up2 (up2 (up2 (up2 (up2 fs42 89 0 0) 89 27 0) 89 28 0) 89 29 0) 89 30 0) 89 31 (-1)) 89 35 0) M) : AM yX11_peek cX11_peek 1 (some .int) true (fr + 9) 0 0 X [.ref 89] M (fun v M1 => v = some (.int (-1)) ∧ Cm (up2 (up2 (up2 (up2 (up2 (up2 (up2 fs42 89 0 0) 89 27 0) 89 28 0) 89 29 0) 89 30 0) 89 31 (-1)) 89 35 0) M1) := by
  refine AM.of false (by decide +kernel) (by intro h; cases h) (Nat.le_of_ble_eq_true rfl) ?_
  show AW X (RX11, cX11_peek, 1, (some .int), false, true, fr + 9) 0 0 0 [(0, .ref 89)] [] M _
  refine a_aload_n dX11_peek_0 rfl rfl ?_
  refine a_get (v := .int 0) dX11_peek_1 fl_11_157 (cm_l h0 (by decide)) (cm_s h0 (by decide) rfl) (cm_gi h0 rfl (by decide) (by first | decide +kernel | rfl)) ?_
  refine a_aload_n dX11_peek_4 rfl rfl ?_
  refine a_get (v := .int 0) dX11_peek_5 fl_11_160 (cm_l h0 (by decide)) (cm_s h0 (by decide) rfl) (cm_gi h0 rfl (by decide) (by first | decide +kernel | rfl)) ?_
  refine a_icmp_ge 27 dX11_peek_8 (by decide) (fun _ => ?_) (fun c => absurd (by decide) c)
  refine a_iconst (v := (-1)) dX11_peek_27 (by decide) ?_
  exact a_iret dX11_peek_28 rfl ⟨rfl, h0⟩
set_option maxHeartbeats 4000000 in
set_option maxRecDepth 100000 in
theorem z2004_X11_blanks {X : Nat × (Nat → Int32)} {fr : Nat} {M : Mem}  (h0 : Cm (up2 (up2 (up2 (up2 (up2 (up2 (up2 fs42 89 0 0) 89 27 0) 89 28 0) 89 29 0) 89 30 0) 89 31 (-1)) 89 35 0) M) : AM yX11_blanks cX11_blanks 1 none true (fr + 10) 0 0 X [.ref 89] M (fun v M1 => v = none ∧ Cm (up2 (up2 (up2 (up2 (up2 (up2 (up2 fs42 89 0 0) 89 27 0) 89 28 0) 89 29 0) 89 30 0) 89 31 (-1)) 89 35 0) M1) := by
  refine AM.of false (by decide +kernel) (by intro h; cases h) (Nat.le_of_ble_eq_true rfl) ?_
  show AW X (RX11, cX11_blanks, 1, none, false, true, fr + 10) 0 0 0 [(0, .ref 89)] [] M _
  refine a_aload_n dX11_blanks_0 rfl rfl ?_
  refine a_callV (As := []) (st := []) (a := 89) (ci := 11) (bc := 0) (bs := 0) (mc := 0) (ms := 0) false dX11_blanks_1 mw_X11_peek rfl (Or.inl ⟨rfl, ml_X11_169⟩) im_X11_peek se_X11_peek (by decide) (cm_l h0 (by decide)) (cm_s h0 (by decide) rfl) rfl (Nat.le_of_ble_eq_true rfl) (z2005_X11_peek (fr := fr)  h0) (fun v M1 hq => ?_)
  obtain ⟨rfl, h1⟩ := hq
  show AW X _ 0 0 4 _ [.int (-1)] _ _
  refine a_bipush (v := 32) dX11_blanks_4 (by decide) ?_
  refine a_icmp_ne 22 dX11_blanks_6 (by decide) (fun _ => ?_) (fun c => absurd c (by decide))
  exact a_vret dX11_blanks_22 rfl ⟨rfl, h1⟩
set_option maxHeartbeats 4000000 in
set_option maxRecDepth 100000 in
theorem z2006_X11_peek {X : Nat × (Nat → Int32)} {fr : Nat} {M : Mem}  (h0 : Cm (up2 (up2 (up2 (up2 (up2 (up2 (up2 fs42 89 0 0) 89 27 0) 89 28 0) 89 29 0) 89 30 0) 89 31 (-1)) 89 35 0) M) : AM yX11_peek cX11_peek 1 (some .int) true (fr + 10) 0 0 X [.ref 89] M (fun v M1 => v = some (.int (-1)) ∧ Cm (up2 (up2 (up2 (up2 (up2 (up2 (up2 fs42 89 0 0) 89 27 0) 89 28 0) 89 29 0) 89 30 0) 89 31 (-1)) 89 35 0) M1) := by
  refine AM.of false (by decide +kernel) (by intro h; cases h) (Nat.le_of_ble_eq_true rfl) ?_
  show AW X (RX11, cX11_peek, 1, (some .int), false, true, fr + 10) 0 0 0 [(0, .ref 89)] [] M _
  refine a_aload_n dX11_peek_0 rfl rfl ?_
  refine a_get (v := .int 0) dX11_peek_1 fl_11_157 (cm_l h0 (by decide)) (cm_s h0 (by decide) rfl) (cm_gi h0 rfl (by decide) (by first | decide +kernel | rfl)) ?_
  refine a_aload_n dX11_peek_4 rfl rfl ?_
  refine a_get (v := .int 0) dX11_peek_5 fl_11_160 (cm_l h0 (by decide)) (cm_s h0 (by decide) rfl) (cm_gi h0 rfl (by decide) (by first | decide +kernel | rfl)) ?_
  refine a_icmp_ge 27 dX11_peek_8 (by decide) (fun _ => ?_) (fun c => absurd (by decide) c)
  refine a_iconst (v := (-1)) dX11_peek_27 (by decide) ?_
  exact a_iret dX11_peek_28 rfl ⟨rfl, h0⟩
set_option maxHeartbeats 4000000 in
set_option maxRecDepth 100000 in
theorem z2003_X11_isOver {X : Nat × (Nat → Int32)} {fr : Nat} {M : Mem}  (h0 : Cm (up2 (up2 (up2 (up2 (up2 (up2 (up2 fs42 89 0 0) 89 27 0) 89 28 0) 89 29 0) 89 30 0) 89 31 (-1)) 89 35 0) M) : AM yX11_isOver cX11_isOver 1 (some .boolean) true (fr + 11) 0 0 X [.ref 89] M (fun v M1 => v = some (.int 1) ∧ Cm (up2 (up2 (up2 (up2 (up2 (up2 (up2 fs42 89 0 0) 89 27 0) 89 28 0) 89 29 0) 89 30 0) 89 31 (-1)) 89 35 0) M1) := by
  refine AM.of false (by decide +kernel) (by intro h; cases h) (Nat.le_of_ble_eq_true rfl) ?_
  show AW X (RX11, cX11_isOver, 1, (some .boolean), false, true, fr + 11) 0 0 0 [(0, .ref 89)] [] M _
  refine a_aload_n dX11_isOver_0 rfl rfl ?_
  refine a_callV (As := []) (st := []) (a := 89) (ci := 11) (bc := 0) (bs := 0) (mc := 0) (ms := 0) false dX11_isOver_1 mw_X11_blanks rfl (Or.inl ⟨rfl, ml_X11_173⟩) im_X11_blanks se_X11_blanks (by decide) (cm_l h0 (by decide)) (cm_s h0 (by decide) rfl) rfl (Nat.le_of_ble_eq_true rfl) (z2004_X11_blanks (fr := fr)  h0) (fun v M1 hq => ?_)
  obtain ⟨rfl, h1⟩ := hq
  refine a_aload_n dX11_isOver_4 rfl rfl ?_
  refine a_get (v := .int 0) dX11_isOver_5 fl_11_163 (cm_l h1 (by decide)) (cm_s h1 (by decide) rfl) (cm_gi h1 rfl (by decide) (by first | decide +kernel | rfl)) ?_
  refine a_if_ne 19 dX11_isOver_8 (by decide) (fun c => absurd (by decide) c) (fun _ => ?_)
  refine a_aload_n dX11_isOver_11 rfl rfl ?_
  refine a_callV (As := []) (st := []) (a := 89) (ci := 11) (bc := 0) (bs := 0) (mc := 0) (ms := 0) false dX11_isOver_12 mw_X11_peek rfl (Or.inl ⟨rfl, ml_X11_169⟩) im_X11_peek se_X11_peek (by decide) (cm_l h1 (by decide)) (cm_s h1 (by decide) rfl) rfl (Nat.le_of_ble_eq_true rfl) (z2006_X11_peek (fr := fr)  h1) (fun v M2 hq => ?_)
  obtain ⟨rfl, h2⟩ := hq
  show AW X _ 0 0 15 _ [.int (-1)] _ _
  refine a_iconst (v := (-1)) dX11_isOver_15 (by decide) ?_
  refine a_icmp_ne 23 dX11_isOver_16 (by decide) (fun c => absurd (by decide) c) (fun _ => ?_)
  refine a_iconst (v := 1) dX11_isOver_19 (by decide) ?_
  refine a_goto 24 dX11_isOver_20 (by decide) ?_
  exact a_zret dX11_isOver_24 rfl (by first | decide | (split <;> rfl)) ⟨rfl, h2⟩
set_option maxHeartbeats 4000000 in
set_option maxRecDepth 100000 in
theorem z2007_X11_settles {X : Nat × (Nat → Int32)} {fr : Nat} {M : Mem}  (h0 : Cm (up2 (up2 (up2 (up2 (up2 (up2 (up2 fs42 89 0 0) 89 27 0) 89 28 0) 89 29 0) 89 30 0) 89 31 (-1)) 89 35 0) M) : AM yX11_settles cX11_settles 1 (some .int) true (fr + 11) 0 0 X [.ref 89] M (fun v M1 => v = some (.int 0) ∧ Cm (up2 (up2 (up2 (up2 (up2 (up2 (up2 (up2 (up2 fs42 89 0 0) 89 27 0) 89 28 0) 89 29 0) 89 30 0) 89 31 (-1)) 89 35 0) 89 32 0) 89 33 (-1)) M1) := by
  refine AM.of false (by decide +kernel) (by intro h; cases h) (Nat.le_of_ble_eq_true rfl) ?_
  show AW X (RX11, cX11_settles, 1, (some .int), false, true, fr + 11) 0 0 0 [(0, .ref 89)] [] M _
  refine a_aload_n dX11_settles_0 rfl rfl ?_
  refine a_aload_n dX11_settles_1 rfl rfl ?_
  refine a_get (v := .int 0) dX11_settles_2 fl_11_163 (cm_l h0 (by decide)) (cm_s h0 (by decide) rfl) (cm_gi h0 rfl (by decide) (by first | decide +kernel | rfl)) ?_
  refine a_putI dX11_settles_5 (Or.inl ⟨fl_11_201, Or.inl rfl⟩) rfl (cm_l h0 (by decide)) (cm_s h0 (by decide) rfl) rfl rfl ?_
  have h1 : Cm (up2 (up2 (up2 (up2 (up2 (up2 (up2 (up2 fs42 89 0 0) 89 27 0) 89 28 0) 89 29 0) 89 30 0) 89 31 (-1)) 89 35 0) 89 32 0) (wI M 89 32 0) := cm_I h0 (by decide)
  generalize (wI M 89 32 0) = M1 at h1 ⊢
  refine a_aload_n dX11_settles_8 rfl rfl ?_
  refine a_aload_n dX11_settles_9 rfl rfl ?_
  refine a_get (v := .int (-1)) dX11_settles_10 fl_11_166 (cm_l h1 (by decide)) (cm_s h1 (by decide) rfl) (cm_gi h1 rfl (by decide) (by first | decide +kernel | rfl)) ?_
  refine a_putI dX11_settles_13 (Or.inl ⟨fl_11_75, Or.inl rfl⟩) rfl (cm_l h1 (by decide)) (cm_s h1 (by decide) rfl) rfl rfl ?_
  have h2 : Cm (up2 (up2 (up2 (up2 (up2 (up2 (up2 (up2 (up2 fs42 89 0 0) 89 27 0) 89 28 0) 89 29 0) 89 30 0) 89 31 (-1)) 89 35 0) 89 32 0) 89 33 (-1)) (wI M1 89 33 (-1)) := cm_I h1 (by decide)
  generalize (wI M1 89 33 (-1)) = M2 at h2 ⊢
  refine a_aload_n dX11_settles_16 rfl rfl ?_
  refine a_get (v := .int 0) dX11_settles_17 fl_11_163 (cm_l h2 (by decide)) (cm_s h2 (by decide) rfl) (cm_gi h2 rfl (by decide) (by first | decide +kernel | rfl)) ?_
  exact a_iret dX11_settles_20 rfl ⟨rfl, h2⟩
set_option maxHeartbeats 4000000 in
set_option maxRecDepth 100000 in
theorem q_hypotheses_0 {X : Nat × (Nat → Int32)} {fr : Nat} {M : Mem}  (h0 : Cm fs42 M) : AM yX11_hypotheses cX11_hypotheses 3 (some .int) true (fr + 12) 0 0 X [.ref 89, .int 0] M (fun v M1 => v = some (.int 0) ∧ True) := by
  refine AM.of false (by decide +kernel) (by intro h; cases h) (Nat.le_of_ble_eq_true rfl) ?_
  show AW X (RX11, cX11_hypotheses, 3, (some .int), false, true, fr + 12) 0 0 0 [(0, .ref 89), (1, .int 0)] [] M _
  refine a_aload_n dX11_hypotheses_0 rfl rfl ?_
  refine a_iconst (v := 0) dX11_hypotheses_1 (by decide) ?_
  refine a_putI dX11_hypotheses_2 (Or.inl ⟨fl_11_1, Or.inl rfl⟩) rfl (cm_l h0 (by decide)) (cm_s h0 (by decide) rfl) rfl rfl ?_
  have h1 : Cm (up2 fs42 89 0 0) (wI M 89 0 0) := cm_I h0 (by decide)
  generalize (wI M 89 0 0) = M1 at h1 ⊢
  refine a_iload_n dX11_hypotheses_5 rfl rfl ?_
  refine a_i2l dX11_hypotheses_6 ?_
  refine a_st (st2 := [.long 0]) (by first | decide +kernel | (refine congrArg (fun z => Value.int z :: []) ?_; decide +kernel) | (refine congrArg (fun z => Value.long z :: []) ?_; decide +kernel)) ?_
  refine a_lconst (v := 0) dX11_hypotheses_7 (by decide) ?_
  refine a_aload_n dX11_hypotheses_8 rfl rfl ?_
  refine a_get (v := .int 0) dX11_hypotheses_9 fl_11_154 (cm_l h1 (by decide)) (cm_s h1 (by decide) rfl) (cm_gi h1 rfl (by decide) (by first | decide +kernel | rfl)) ?_
  refine a_i2l dX11_hypotheses_12 ?_
  refine a_st (st2 := [.long 0, .long 0, .long 0]) (by first | decide +kernel | (refine congrArg (fun z => Value.int z :: [.long 0, .long 0]) ?_; decide +kernel) | (refine congrArg (fun z => Value.long z :: [.long 0, .long 0]) ?_; decide +kernel)) ?_
  refine a_callS (As := [.long 0, .long 0, .long 0]) (st := []) (bc := 0) (bs := 0) (mc := 0) (ms := 0) false dX11_hypotheses_13 mw_X11_isIn rfl (Or.inl ⟨rfl, ml_X11_180⟩) sm_X11_isIn rfl (Nat.le_of_ble_eq_true rfl) (k_isIn (fr := fr + 11) 0 0 0) (fun v M1 hq => ?_)
  obtain ⟨rfl, hM1⟩ := hq
  rw [hM1]
  clear hM1 M1
  refine a_st (st2 := [.int 1]) (by first | decide +kernel | (refine congrArg (fun z => Value.int z :: []) ?_; decide +kernel) | (refine congrArg (fun z => Value.long z :: []) ?_; decide +kernel)) ?_
  refine a_if_ne 22 dX11_hypotheses_16 (by decide) (fun _ => ?_) (fun c => absurd c (by decide))
  refine a_aload_n dX11_hypotheses_22 rfl rfl ?_
  refine a_iload_n dX11_hypotheses_23 rfl rfl ?_
  refine a_callV (As := [.int 0]) (st := []) (a := 89) (ci := 11) (bc := 0) (bs := 0) (mc := 0) (ms := 0) false dX11_hypotheses_24 mw_X11_begins rfl (Or.inl ⟨rfl, ml_X11_234⟩) im_X11_begins se_X11_begins (by decide) (cm_l h1 (by decide)) (cm_s h1 (by decide) rfl) rfl (Nat.le_of_ble_eq_true rfl) (z2001_X11_begins (fr := fr)  h1) (fun v M2 hq => ?_)
  obtain ⟨rfl, h2⟩ := hq
  refine a_aload_n dX11_hypotheses_27 rfl rfl ?_
  refine a_iconst (v := 0) dX11_hypotheses_28 (by decide) ?_
  refine a_putI dX11_hypotheses_29 (Or.inl ⟨fl_11_224, Or.inl rfl⟩) rfl (cm_l h2 (by decide)) (cm_s h2 (by decide) rfl) rfl rfl ?_
  have h3 : Cm (up2 (up2 (up2 (up2 (up2 (up2 (up2 fs42 89 0 0) 89 27 0) 89 28 0) 89 29 0) 89 30 0) 89 31 (-1)) 89 35 0) (wI M2 89 35 0) := cm_I h2 (by decide)
  generalize (wI M2 89 35 0) = M3 at h3 ⊢
  refine a_aload_n dX11_hypotheses_32 rfl rfl ?_
  refine a_callV (As := []) (st := []) (a := 89) (ci := 11) (bc := 0) (bs := 0) (mc := 0) (ms := 0) false dX11_hypotheses_33 mw_X11_isOver rfl (Or.inl ⟨rfl, ml_X11_237⟩) im_X11_isOver se_X11_isOver (by decide) (cm_l h3 (by decide)) (cm_s h3 (by decide) rfl) rfl (Nat.le_of_ble_eq_true rfl) (z2003_X11_isOver (fr := fr)  h3) (fun v M4 hq => ?_)
  obtain ⟨rfl, h4⟩ := hq
  show AW X _ 0 0 36 _ [.int 1] _ _
  refine a_if_ne 46 dX11_hypotheses_36 (by decide) (fun _ => ?_) (fun c => absurd c (by decide))
  refine a_aload_n dX11_hypotheses_46 rfl rfl ?_
  refine a_callV (As := []) (st := []) (a := 89) (ci := 11) (bc := 0) (bs := 0) (mc := 0) (ms := 0) false dX11_hypotheses_47 mw_X11_settles rfl (Or.inl ⟨rfl, ml_X11_244⟩) im_X11_settles se_X11_settles (by decide) (cm_l h4 (by decide)) (cm_s h4 (by decide) rfl) rfl (Nat.le_of_ble_eq_true rfl) (z2007_X11_settles (fr := fr)  h4) (fun v M5 hq => ?_)
  obtain ⟨rfl, h5⟩ := hq
  show AW X _ 0 0 50 _ [.int 0] _ _
  refine a_if_eq 61 dX11_hypotheses_50 (by decide) (fun _ => ?_) (fun c => absurd (by decide) c)
  refine a_aload_n dX11_hypotheses_61 rfl rfl ?_
  refine a_aload_n dX11_hypotheses_62 rfl rfl ?_
  refine a_get (v := .int 0) dX11_hypotheses_63 fl_11_224 (cm_l h5 (by decide)) (cm_s h5 (by decide) rfl) (cm_gi h5 rfl (by decide) (by first | decide +kernel | rfl)) ?_
  refine a_putI dX11_hypotheses_66 (Or.inl ⟨fl_11_144, Or.inl rfl⟩) rfl (cm_l h5 (by decide)) (cm_s h5 (by decide) rfl) rfl rfl ?_
  have h6 : Cm (up2 (up2 (up2 (up2 (up2 (up2 (up2 (up2 (up2 (up2 fs42 89 0 0) 89 27 0) 89 28 0) 89 29 0) 89 30 0) 89 31 (-1)) 89 35 0) 89 32 0) 89 33 (-1)) 89 15 0) (wI M5 89 15 0) := cm_I h5 (by decide)
  generalize (wI M5 89 15 0) = M6 at h6 ⊢
  refine a_iconst (v := 0) dX11_hypotheses_69 (by decide) ?_
  refine a_istore_n dX11_hypotheses_70 rfl (Nat.le_of_ble_eq_true rfl) (lv2 := [(2, .int 0), (0, .ref 89), (1, .int 0)]) rfl ?_
  refine a_iload_n dX11_hypotheses_71 rfl rfl ?_
  refine a_bipush (v := 24) dX11_hypotheses_72 (by decide) ?_
  refine a_icmp_ge 95 dX11_hypotheses_74 (by decide) (fun c => absurd c (by decide)) (fun _ => ?_)
  refine a_aload_n dX11_hypotheses_77 rfl rfl ?_
  refine a_get (v := .ref 96) dX11_hypotheses_78 fl_11_32 (cm_l h6 (by decide)) (cm_s h6 (by decide) rfl) (cm_g h6 rfl (by decide +kernel)) ?_
  refine a_iload_n dX11_hypotheses_81 rfl rfl ?_
  refine a_aload_n dX11_hypotheses_82 rfl rfl ?_
  refine a_get (v := .ref 99) dX11_hypotheses_83 fl_11_41 (cm_l h6 (by decide)) (cm_s h6 (by decide) rfl) (cm_g h6 rfl (by decide +kernel)) ?_
  refine a_iload_n dX11_hypotheses_86 rfl rfl ?_
  refine a_iaload dX11_hypotheses_87 (cm_l h6 (by decide)) (cm_s h6 (by decide) rfl) (by unfold vp_in; decide +kernel) ?_
  rw [show M6.2.2.1 99 (Int32.toNatClampNeg 0) = 0 from (cm_i h6 (by decide)).trans (by first | decide +kernel | rfl)]
  refine a_iastore dX11_hypotheses_88 (cm_l h6 (by decide)) (cm_s h6 (by decide) rfl) (by unfold vp_in; decide +kernel) ?_
  rw [show Int32.toNatClampNeg 0 = 0 from by decide +kernel]
  have h7 : Cm (up2 (up2 (up2 (up2 (up2 (up2 (up2 (up2 (up2 (up2 (up2 fs42 89 0 0) 89 27 0) 89 28 0) 89 29 0) 89 30 0) 89 31 (-1)) 89 35 0) 89 32 0) 89 33 (-1)) 89 15 0) 96 0 0) (wI M6 96 0 0) := cm_I h6 (by decide)
  generalize (wI M6 96 0 0) = M7 at h7 ⊢
  refine a_iinc (v := 1) dX11_hypotheses_89 rfl (by decide) (Nat.le_of_ble_eq_true rfl) (lv2 := [(2, .int 1), (0, .ref 89), (1, .int 0)]) rfl ?_
  refine a_goto 71 dX11_hypotheses_92 (by decide) ?_
  refine a_iload_n dX11_hypotheses_71 rfl rfl ?_
  refine a_bipush (v := 24) dX11_hypotheses_72 (by decide) ?_
  refine a_icmp_ge 95 dX11_hypotheses_74 (by decide) (fun c => absurd c (by decide)) (fun _ => ?_)
  refine a_aload_n dX11_hypotheses_77 rfl rfl ?_
  refine a_get (v := .ref 96) dX11_hypotheses_78 fl_11_32 (cm_l h7 (by decide)) (cm_s h7 (by decide) rfl) (cm_g h7 rfl (by decide +kernel)) ?_
  refine a_iload_n dX11_hypotheses_81 rfl rfl ?_
  refine a_aload_n dX11_hypotheses_82 rfl rfl ?_
  refine a_get (v := .ref 99) dX11_hypotheses_83 fl_11_41 (cm_l h7 (by decide)) (cm_s h7 (by decide) rfl) (cm_g h7 rfl (by decide +kernel)) ?_
  refine a_iload_n dX11_hypotheses_86 rfl rfl ?_
  refine a_iaload dX11_hypotheses_87 (cm_l h7 (by decide)) (cm_s h7 (by decide) rfl) (by unfold vp_in; decide +kernel) ?_
  rw [show M7.2.2.1 99 (Int32.toNatClampNeg 1) = 0 from (cm_i h7 (by decide)).trans (by first | decide +kernel | rfl)]
  refine a_iastore dX11_hypotheses_88 (cm_l h7 (by decide)) (cm_s h7 (by decide) rfl) (by unfold vp_in; decide +kernel) ?_
  rw [show Int32.toNatClampNeg 1 = 1 from by decide +kernel]
  have h8 : Cm (up2 (up2 (up2 (up2 (up2 (up2 (up2 (up2 (up2 (up2 (up2 (up2 fs42 89 0 0) 89 27 0) 89 28 0) 89 29 0) 89 30 0) 89 31 (-1)) 89 35 0) 89 32 0) 89 33 (-1)) 89 15 0) 96 0 0) 96 1 0) (wI M7 96 1 0) := cm_I h7 (by decide)
  generalize (wI M7 96 1 0) = M8 at h8 ⊢
  refine a_iinc (v := 2) dX11_hypotheses_89 rfl (by decide) (Nat.le_of_ble_eq_true rfl) (lv2 := [(2, .int 2), (0, .ref 89), (1, .int 0)]) rfl ?_
  refine a_goto 71 dX11_hypotheses_92 (by decide) ?_
  refine a_iload_n dX11_hypotheses_71 rfl rfl ?_
  refine a_bipush (v := 24) dX11_hypotheses_72 (by decide) ?_
  refine a_icmp_ge 95 dX11_hypotheses_74 (by decide) (fun c => absurd c (by decide)) (fun _ => ?_)
  refine a_aload_n dX11_hypotheses_77 rfl rfl ?_
  refine a_get (v := .ref 96) dX11_hypotheses_78 fl_11_32 (cm_l h8 (by decide)) (cm_s h8 (by decide) rfl) (cm_g h8 rfl (by decide +kernel)) ?_
  refine a_iload_n dX11_hypotheses_81 rfl rfl ?_
  refine a_aload_n dX11_hypotheses_82 rfl rfl ?_
  refine a_get (v := .ref 99) dX11_hypotheses_83 fl_11_41 (cm_l h8 (by decide)) (cm_s h8 (by decide) rfl) (cm_g h8 rfl (by decide +kernel)) ?_
  refine a_iload_n dX11_hypotheses_86 rfl rfl ?_
  refine a_iaload dX11_hypotheses_87 (cm_l h8 (by decide)) (cm_s h8 (by decide) rfl) (by unfold vp_in; decide +kernel) ?_
  rw [show M8.2.2.1 99 (Int32.toNatClampNeg 2) = 0 from (cm_i h8 (by decide)).trans (by first | decide +kernel | rfl)]
  refine a_iastore dX11_hypotheses_88 (cm_l h8 (by decide)) (cm_s h8 (by decide) rfl) (by unfold vp_in; decide +kernel) ?_
  rw [show Int32.toNatClampNeg 2 = 2 from by decide +kernel]
  have h9 : Cm (up2 (up2 (up2 (up2 (up2 (up2 (up2 (up2 (up2 (up2 (up2 (up2 (up2 fs42 89 0 0) 89 27 0) 89 28 0) 89 29 0) 89 30 0) 89 31 (-1)) 89 35 0) 89 32 0) 89 33 (-1)) 89 15 0) 96 0 0) 96 1 0) 96 2 0) (wI M8 96 2 0) := cm_I h8 (by decide)
  generalize (wI M8 96 2 0) = M9 at h9 ⊢
  refine a_iinc (v := 3) dX11_hypotheses_89 rfl (by decide) (Nat.le_of_ble_eq_true rfl) (lv2 := [(2, .int 3), (0, .ref 89), (1, .int 0)]) rfl ?_
  refine a_goto 71 dX11_hypotheses_92 (by decide) ?_
  refine a_iload_n dX11_hypotheses_71 rfl rfl ?_
  refine a_bipush (v := 24) dX11_hypotheses_72 (by decide) ?_
  refine a_icmp_ge 95 dX11_hypotheses_74 (by decide) (fun c => absurd c (by decide)) (fun _ => ?_)
  refine a_aload_n dX11_hypotheses_77 rfl rfl ?_
  refine a_get (v := .ref 96) dX11_hypotheses_78 fl_11_32 (cm_l h9 (by decide)) (cm_s h9 (by decide) rfl) (cm_g h9 rfl (by decide +kernel)) ?_
  refine a_iload_n dX11_hypotheses_81 rfl rfl ?_
  refine a_aload_n dX11_hypotheses_82 rfl rfl ?_
  refine a_get (v := .ref 99) dX11_hypotheses_83 fl_11_41 (cm_l h9 (by decide)) (cm_s h9 (by decide) rfl) (cm_g h9 rfl (by decide +kernel)) ?_
  refine a_iload_n dX11_hypotheses_86 rfl rfl ?_
  refine a_iaload dX11_hypotheses_87 (cm_l h9 (by decide)) (cm_s h9 (by decide) rfl) (by unfold vp_in; decide +kernel) ?_
  rw [show M9.2.2.1 99 (Int32.toNatClampNeg 3) = 0 from (cm_i h9 (by decide)).trans (by first | decide +kernel | rfl)]
  refine a_iastore dX11_hypotheses_88 (cm_l h9 (by decide)) (cm_s h9 (by decide) rfl) (by unfold vp_in; decide +kernel) ?_
  rw [show Int32.toNatClampNeg 3 = 3 from by decide +kernel]
  have h10 : Cm (up2 (up2 (up2 (up2 (up2 (up2 (up2 (up2 (up2 (up2 (up2 (up2 (up2 (up2 fs42 89 0 0) 89 27 0) 89 28 0) 89 29 0) 89 30 0) 89 31 (-1)) 89 35 0) 89 32 0) 89 33 (-1)) 89 15 0) 96 0 0) 96 1 0) 96 2 0) 96 3 0) (wI M9 96 3 0) := cm_I h9 (by decide)
  generalize (wI M9 96 3 0) = M10 at h10 ⊢
  refine a_iinc (v := 4) dX11_hypotheses_89 rfl (by decide) (Nat.le_of_ble_eq_true rfl) (lv2 := [(2, .int 4), (0, .ref 89), (1, .int 0)]) rfl ?_
  refine a_goto 71 dX11_hypotheses_92 (by decide) ?_
  refine a_iload_n dX11_hypotheses_71 rfl rfl ?_
  refine a_bipush (v := 24) dX11_hypotheses_72 (by decide) ?_
  refine a_icmp_ge 95 dX11_hypotheses_74 (by decide) (fun c => absurd c (by decide)) (fun _ => ?_)
  refine a_aload_n dX11_hypotheses_77 rfl rfl ?_
  refine a_get (v := .ref 96) dX11_hypotheses_78 fl_11_32 (cm_l h10 (by decide)) (cm_s h10 (by decide) rfl) (cm_g h10 rfl (by decide +kernel)) ?_
  refine a_iload_n dX11_hypotheses_81 rfl rfl ?_
  refine a_aload_n dX11_hypotheses_82 rfl rfl ?_
  refine a_get (v := .ref 99) dX11_hypotheses_83 fl_11_41 (cm_l h10 (by decide)) (cm_s h10 (by decide) rfl) (cm_g h10 rfl (by decide +kernel)) ?_
  refine a_iload_n dX11_hypotheses_86 rfl rfl ?_
  refine a_iaload dX11_hypotheses_87 (cm_l h10 (by decide)) (cm_s h10 (by decide) rfl) (by unfold vp_in; decide +kernel) ?_
  rw [show M10.2.2.1 99 (Int32.toNatClampNeg 4) = 0 from (cm_i h10 (by decide)).trans (by first | decide +kernel | rfl)]
  refine a_iastore dX11_hypotheses_88 (cm_l h10 (by decide)) (cm_s h10 (by decide) rfl) (by unfold vp_in; decide +kernel) ?_
  rw [show Int32.toNatClampNeg 4 = 4 from by decide +kernel]
  have h11 : Cm (up2 (up2 (up2 (up2 (up2 (up2 (up2 (up2 (up2 (up2 (up2 (up2 (up2 (up2 (up2 fs42 89 0 0) 89 27 0) 89 28 0) 89 29 0) 89 30 0) 89 31 (-1)) 89 35 0) 89 32 0) 89 33 (-1)) 89 15 0) 96 0 0) 96 1 0) 96 2 0) 96 3 0) 96 4 0) (wI M10 96 4 0) := cm_I h10 (by decide)
  generalize (wI M10 96 4 0) = M11 at h11 ⊢
  refine a_iinc (v := 5) dX11_hypotheses_89 rfl (by decide) (Nat.le_of_ble_eq_true rfl) (lv2 := [(2, .int 5), (0, .ref 89), (1, .int 0)]) rfl ?_
  refine a_goto 71 dX11_hypotheses_92 (by decide) ?_
  refine a_iload_n dX11_hypotheses_71 rfl rfl ?_
  refine a_bipush (v := 24) dX11_hypotheses_72 (by decide) ?_
  refine a_icmp_ge 95 dX11_hypotheses_74 (by decide) (fun c => absurd c (by decide)) (fun _ => ?_)
  refine a_aload_n dX11_hypotheses_77 rfl rfl ?_
  refine a_get (v := .ref 96) dX11_hypotheses_78 fl_11_32 (cm_l h11 (by decide)) (cm_s h11 (by decide) rfl) (cm_g h11 rfl (by decide +kernel)) ?_
  refine a_iload_n dX11_hypotheses_81 rfl rfl ?_
  refine a_aload_n dX11_hypotheses_82 rfl rfl ?_
  refine a_get (v := .ref 99) dX11_hypotheses_83 fl_11_41 (cm_l h11 (by decide)) (cm_s h11 (by decide) rfl) (cm_g h11 rfl (by decide +kernel)) ?_
  refine a_iload_n dX11_hypotheses_86 rfl rfl ?_
  refine a_iaload dX11_hypotheses_87 (cm_l h11 (by decide)) (cm_s h11 (by decide) rfl) (by unfold vp_in; decide +kernel) ?_
  rw [show M11.2.2.1 99 (Int32.toNatClampNeg 5) = 0 from (cm_i h11 (by decide)).trans (by first | decide +kernel | rfl)]
  refine a_iastore dX11_hypotheses_88 (cm_l h11 (by decide)) (cm_s h11 (by decide) rfl) (by unfold vp_in; decide +kernel) ?_
  rw [show Int32.toNatClampNeg 5 = 5 from by decide +kernel]
  have h12 : Cm (up2 (up2 (up2 (up2 (up2 (up2 (up2 (up2 (up2 (up2 (up2 (up2 (up2 (up2 (up2 (up2 fs42 89 0 0) 89 27 0) 89 28 0) 89 29 0) 89 30 0) 89 31 (-1)) 89 35 0) 89 32 0) 89 33 (-1)) 89 15 0) 96 0 0) 96 1 0) 96 2 0) 96 3 0) 96 4 0) 96 5 0) (wI M11 96 5 0) := cm_I h11 (by decide)
  generalize (wI M11 96 5 0) = M12 at h12 ⊢
  refine a_iinc (v := 6) dX11_hypotheses_89 rfl (by decide) (Nat.le_of_ble_eq_true rfl) (lv2 := [(2, .int 6), (0, .ref 89), (1, .int 0)]) rfl ?_
  refine a_goto 71 dX11_hypotheses_92 (by decide) ?_
  refine a_iload_n dX11_hypotheses_71 rfl rfl ?_
  refine a_bipush (v := 24) dX11_hypotheses_72 (by decide) ?_
  refine a_icmp_ge 95 dX11_hypotheses_74 (by decide) (fun c => absurd c (by decide)) (fun _ => ?_)
  refine a_aload_n dX11_hypotheses_77 rfl rfl ?_
  refine a_get (v := .ref 96) dX11_hypotheses_78 fl_11_32 (cm_l h12 (by decide)) (cm_s h12 (by decide) rfl) (cm_g h12 rfl (by decide +kernel)) ?_
  refine a_iload_n dX11_hypotheses_81 rfl rfl ?_
  refine a_aload_n dX11_hypotheses_82 rfl rfl ?_
  refine a_get (v := .ref 99) dX11_hypotheses_83 fl_11_41 (cm_l h12 (by decide)) (cm_s h12 (by decide) rfl) (cm_g h12 rfl (by decide +kernel)) ?_
  refine a_iload_n dX11_hypotheses_86 rfl rfl ?_
  refine a_iaload dX11_hypotheses_87 (cm_l h12 (by decide)) (cm_s h12 (by decide) rfl) (by unfold vp_in; decide +kernel) ?_
  rw [show M12.2.2.1 99 (Int32.toNatClampNeg 6) = 0 from (cm_i h12 (by decide)).trans (by first | decide +kernel | rfl)]
  refine a_iastore dX11_hypotheses_88 (cm_l h12 (by decide)) (cm_s h12 (by decide) rfl) (by unfold vp_in; decide +kernel) ?_
  rw [show Int32.toNatClampNeg 6 = 6 from by decide +kernel]
  have h13 : Cm (up2 (up2 (up2 (up2 (up2 (up2 (up2 (up2 (up2 (up2 (up2 (up2 (up2 (up2 (up2 (up2 (up2 fs42 89 0 0) 89 27 0) 89 28 0) 89 29 0) 89 30 0) 89 31 (-1)) 89 35 0) 89 32 0) 89 33 (-1)) 89 15 0) 96 0 0) 96 1 0) 96 2 0) 96 3 0) 96 4 0) 96 5 0) 96 6 0) (wI M12 96 6 0) := cm_I h12 (by decide)
  generalize (wI M12 96 6 0) = M13 at h13 ⊢
  refine a_iinc (v := 7) dX11_hypotheses_89 rfl (by decide) (Nat.le_of_ble_eq_true rfl) (lv2 := [(2, .int 7), (0, .ref 89), (1, .int 0)]) rfl ?_
  refine a_goto 71 dX11_hypotheses_92 (by decide) ?_
  refine a_iload_n dX11_hypotheses_71 rfl rfl ?_
  refine a_bipush (v := 24) dX11_hypotheses_72 (by decide) ?_
  refine a_icmp_ge 95 dX11_hypotheses_74 (by decide) (fun c => absurd c (by decide)) (fun _ => ?_)
  refine a_aload_n dX11_hypotheses_77 rfl rfl ?_
  refine a_get (v := .ref 96) dX11_hypotheses_78 fl_11_32 (cm_l h13 (by decide)) (cm_s h13 (by decide) rfl) (cm_g h13 rfl (by decide +kernel)) ?_
  refine a_iload_n dX11_hypotheses_81 rfl rfl ?_
  refine a_aload_n dX11_hypotheses_82 rfl rfl ?_
  refine a_get (v := .ref 99) dX11_hypotheses_83 fl_11_41 (cm_l h13 (by decide)) (cm_s h13 (by decide) rfl) (cm_g h13 rfl (by decide +kernel)) ?_
  refine a_iload_n dX11_hypotheses_86 rfl rfl ?_
  refine a_iaload dX11_hypotheses_87 (cm_l h13 (by decide)) (cm_s h13 (by decide) rfl) (by unfold vp_in; decide +kernel) ?_
  rw [show M13.2.2.1 99 (Int32.toNatClampNeg 7) = 0 from (cm_i h13 (by decide)).trans (by first | decide +kernel | rfl)]
  refine a_iastore dX11_hypotheses_88 (cm_l h13 (by decide)) (cm_s h13 (by decide) rfl) (by unfold vp_in; decide +kernel) ?_
  rw [show Int32.toNatClampNeg 7 = 7 from by decide +kernel]
  have h14 : Cm (up2 (up2 (up2 (up2 (up2 (up2 (up2 (up2 (up2 (up2 (up2 (up2 (up2 (up2 (up2 (up2 (up2 (up2 fs42 89 0 0) 89 27 0) 89 28 0) 89 29 0) 89 30 0) 89 31 (-1)) 89 35 0) 89 32 0) 89 33 (-1)) 89 15 0) 96 0 0) 96 1 0) 96 2 0) 96 3 0) 96 4 0) 96 5 0) 96 6 0) 96 7 0) (wI M13 96 7 0) := cm_I h13 (by decide)
  generalize (wI M13 96 7 0) = M14 at h14 ⊢
  refine a_iinc (v := 8) dX11_hypotheses_89 rfl (by decide) (Nat.le_of_ble_eq_true rfl) (lv2 := [(2, .int 8), (0, .ref 89), (1, .int 0)]) rfl ?_
  refine a_goto 71 dX11_hypotheses_92 (by decide) ?_
  refine a_iload_n dX11_hypotheses_71 rfl rfl ?_
  refine a_bipush (v := 24) dX11_hypotheses_72 (by decide) ?_
  refine a_icmp_ge 95 dX11_hypotheses_74 (by decide) (fun c => absurd c (by decide)) (fun _ => ?_)
  refine a_aload_n dX11_hypotheses_77 rfl rfl ?_
  refine a_get (v := .ref 96) dX11_hypotheses_78 fl_11_32 (cm_l h14 (by decide)) (cm_s h14 (by decide) rfl) (cm_g h14 rfl (by decide +kernel)) ?_
  refine a_iload_n dX11_hypotheses_81 rfl rfl ?_
  refine a_aload_n dX11_hypotheses_82 rfl rfl ?_
  refine a_get (v := .ref 99) dX11_hypotheses_83 fl_11_41 (cm_l h14 (by decide)) (cm_s h14 (by decide) rfl) (cm_g h14 rfl (by decide +kernel)) ?_
  refine a_iload_n dX11_hypotheses_86 rfl rfl ?_
  refine a_iaload dX11_hypotheses_87 (cm_l h14 (by decide)) (cm_s h14 (by decide) rfl) (by unfold vp_in; decide +kernel) ?_
  rw [show M14.2.2.1 99 (Int32.toNatClampNeg 8) = 0 from (cm_i h14 (by decide)).trans (by first | decide +kernel | rfl)]
  refine a_iastore dX11_hypotheses_88 (cm_l h14 (by decide)) (cm_s h14 (by decide) rfl) (by unfold vp_in; decide +kernel) ?_
  rw [show Int32.toNatClampNeg 8 = 8 from by decide +kernel]
  have h15 : Cm (up2 (up2 (up2 (up2 (up2 (up2 (up2 (up2 (up2 (up2 (up2 (up2 (up2 (up2 (up2 (up2 (up2 (up2 (up2 fs42 89 0 0) 89 27 0) 89 28 0) 89 29 0) 89 30 0) 89 31 (-1)) 89 35 0) 89 32 0) 89 33 (-1)) 89 15 0) 96 0 0) 96 1 0) 96 2 0) 96 3 0) 96 4 0) 96 5 0) 96 6 0) 96 7 0) 96 8 0) (wI M14 96 8 0) := cm_I h14 (by decide)
  generalize (wI M14 96 8 0) = M15 at h15 ⊢
  refine a_iinc (v := 9) dX11_hypotheses_89 rfl (by decide) (Nat.le_of_ble_eq_true rfl) (lv2 := [(2, .int 9), (0, .ref 89), (1, .int 0)]) rfl ?_
  refine a_goto 71 dX11_hypotheses_92 (by decide) ?_
  refine a_iload_n dX11_hypotheses_71 rfl rfl ?_
  refine a_bipush (v := 24) dX11_hypotheses_72 (by decide) ?_
  refine a_icmp_ge 95 dX11_hypotheses_74 (by decide) (fun c => absurd c (by decide)) (fun _ => ?_)
  refine a_aload_n dX11_hypotheses_77 rfl rfl ?_
  refine a_get (v := .ref 96) dX11_hypotheses_78 fl_11_32 (cm_l h15 (by decide)) (cm_s h15 (by decide) rfl) (cm_g h15 rfl (by decide +kernel)) ?_
  refine a_iload_n dX11_hypotheses_81 rfl rfl ?_
  refine a_aload_n dX11_hypotheses_82 rfl rfl ?_
  refine a_get (v := .ref 99) dX11_hypotheses_83 fl_11_41 (cm_l h15 (by decide)) (cm_s h15 (by decide) rfl) (cm_g h15 rfl (by decide +kernel)) ?_
  refine a_iload_n dX11_hypotheses_86 rfl rfl ?_
  refine a_iaload dX11_hypotheses_87 (cm_l h15 (by decide)) (cm_s h15 (by decide) rfl) (by unfold vp_in; decide +kernel) ?_
  rw [show M15.2.2.1 99 (Int32.toNatClampNeg 9) = 0 from (cm_i h15 (by decide)).trans (by first | decide +kernel | rfl)]
  refine a_iastore dX11_hypotheses_88 (cm_l h15 (by decide)) (cm_s h15 (by decide) rfl) (by unfold vp_in; decide +kernel) ?_
  rw [show Int32.toNatClampNeg 9 = 9 from by decide +kernel]
  have h16 : Cm (up2 (up2 (up2 (up2 (up2 (up2 (up2 (up2 (up2 (up2 (up2 (up2 (up2 (up2 (up2 (up2 (up2 (up2 (up2 (up2 fs42 89 0 0) 89 27 0) 89 28 0) 89 29 0) 89 30 0) 89 31 (-1)) 89 35 0) 89 32 0) 89 33 (-1)) 89 15 0) 96 0 0) 96 1 0) 96 2 0) 96 3 0) 96 4 0) 96 5 0) 96 6 0) 96 7 0) 96 8 0) 96 9 0) (wI M15 96 9 0) := cm_I h15 (by decide)
  generalize (wI M15 96 9 0) = M16 at h16 ⊢
  refine a_iinc (v := 10) dX11_hypotheses_89 rfl (by decide) (Nat.le_of_ble_eq_true rfl) (lv2 := [(2, .int 10), (0, .ref 89), (1, .int 0)]) rfl ?_
  refine a_goto 71 dX11_hypotheses_92 (by decide) ?_
  refine a_iload_n dX11_hypotheses_71 rfl rfl ?_
  refine a_bipush (v := 24) dX11_hypotheses_72 (by decide) ?_
  refine a_icmp_ge 95 dX11_hypotheses_74 (by decide) (fun c => absurd c (by decide)) (fun _ => ?_)
  refine a_aload_n dX11_hypotheses_77 rfl rfl ?_
  refine a_get (v := .ref 96) dX11_hypotheses_78 fl_11_32 (cm_l h16 (by decide)) (cm_s h16 (by decide) rfl) (cm_g h16 rfl (by decide +kernel)) ?_
  refine a_iload_n dX11_hypotheses_81 rfl rfl ?_
  refine a_aload_n dX11_hypotheses_82 rfl rfl ?_
  refine a_get (v := .ref 99) dX11_hypotheses_83 fl_11_41 (cm_l h16 (by decide)) (cm_s h16 (by decide) rfl) (cm_g h16 rfl (by decide +kernel)) ?_
  refine a_iload_n dX11_hypotheses_86 rfl rfl ?_
  refine a_iaload dX11_hypotheses_87 (cm_l h16 (by decide)) (cm_s h16 (by decide) rfl) (by unfold vp_in; decide +kernel) ?_
  rw [show M16.2.2.1 99 (Int32.toNatClampNeg 10) = 0 from (cm_i h16 (by decide)).trans (by first | decide +kernel | rfl)]
  refine a_iastore dX11_hypotheses_88 (cm_l h16 (by decide)) (cm_s h16 (by decide) rfl) (by unfold vp_in; decide +kernel) ?_
  rw [show Int32.toNatClampNeg 10 = 10 from by decide +kernel]
  have h17 : Cm (up2 (up2 (up2 (up2 (up2 (up2 (up2 (up2 (up2 (up2 (up2 (up2 (up2 (up2 (up2 (up2 (up2 (up2 (up2 (up2 (up2 fs42 89 0 0) 89 27 0) 89 28 0) 89 29 0) 89 30 0) 89 31 (-1)) 89 35 0) 89 32 0) 89 33 (-1)) 89 15 0) 96 0 0) 96 1 0) 96 2 0) 96 3 0) 96 4 0) 96 5 0) 96 6 0) 96 7 0) 96 8 0) 96 9 0) 96 10 0) (wI M16 96 10 0) := cm_I h16 (by decide)
  generalize (wI M16 96 10 0) = M17 at h17 ⊢
  refine a_iinc (v := 11) dX11_hypotheses_89 rfl (by decide) (Nat.le_of_ble_eq_true rfl) (lv2 := [(2, .int 11), (0, .ref 89), (1, .int 0)]) rfl ?_
  refine a_goto 71 dX11_hypotheses_92 (by decide) ?_
  refine a_iload_n dX11_hypotheses_71 rfl rfl ?_
  refine a_bipush (v := 24) dX11_hypotheses_72 (by decide) ?_
  refine a_icmp_ge 95 dX11_hypotheses_74 (by decide) (fun c => absurd c (by decide)) (fun _ => ?_)
  refine a_aload_n dX11_hypotheses_77 rfl rfl ?_
  refine a_get (v := .ref 96) dX11_hypotheses_78 fl_11_32 (cm_l h17 (by decide)) (cm_s h17 (by decide) rfl) (cm_g h17 rfl (by decide +kernel)) ?_
  refine a_iload_n dX11_hypotheses_81 rfl rfl ?_
  refine a_aload_n dX11_hypotheses_82 rfl rfl ?_
  refine a_get (v := .ref 99) dX11_hypotheses_83 fl_11_41 (cm_l h17 (by decide)) (cm_s h17 (by decide) rfl) (cm_g h17 rfl (by decide +kernel)) ?_
  refine a_iload_n dX11_hypotheses_86 rfl rfl ?_
  refine a_iaload dX11_hypotheses_87 (cm_l h17 (by decide)) (cm_s h17 (by decide) rfl) (by unfold vp_in; decide +kernel) ?_
  rw [show M17.2.2.1 99 (Int32.toNatClampNeg 11) = 0 from (cm_i h17 (by decide)).trans (by first | decide +kernel | rfl)]
  refine a_iastore dX11_hypotheses_88 (cm_l h17 (by decide)) (cm_s h17 (by decide) rfl) (by unfold vp_in; decide +kernel) ?_
  rw [show Int32.toNatClampNeg 11 = 11 from by decide +kernel]
  have h18 : Cm (up2 (up2 (up2 (up2 (up2 (up2 (up2 (up2 (up2 (up2 (up2 (up2 (up2 (up2 (up2 (up2 (up2 (up2 (up2 (up2 (up2 (up2 fs42 89 0 0) 89 27 0) 89 28 0) 89 29 0) 89 30 0) 89 31 (-1)) 89 35 0) 89 32 0) 89 33 (-1)) 89 15 0) 96 0 0) 96 1 0) 96 2 0) 96 3 0) 96 4 0) 96 5 0) 96 6 0) 96 7 0) 96 8 0) 96 9 0) 96 10 0) 96 11 0) (wI M17 96 11 0) := cm_I h17 (by decide)
  generalize (wI M17 96 11 0) = M18 at h18 ⊢
  refine a_iinc (v := 12) dX11_hypotheses_89 rfl (by decide) (Nat.le_of_ble_eq_true rfl) (lv2 := [(2, .int 12), (0, .ref 89), (1, .int 0)]) rfl ?_
  refine a_goto 71 dX11_hypotheses_92 (by decide) ?_
  refine a_iload_n dX11_hypotheses_71 rfl rfl ?_
  refine a_bipush (v := 24) dX11_hypotheses_72 (by decide) ?_
  refine a_icmp_ge 95 dX11_hypotheses_74 (by decide) (fun c => absurd c (by decide)) (fun _ => ?_)
  refine a_aload_n dX11_hypotheses_77 rfl rfl ?_
  refine a_get (v := .ref 96) dX11_hypotheses_78 fl_11_32 (cm_l h18 (by decide)) (cm_s h18 (by decide) rfl) (cm_g h18 rfl (by decide +kernel)) ?_
  refine a_iload_n dX11_hypotheses_81 rfl rfl ?_
  refine a_aload_n dX11_hypotheses_82 rfl rfl ?_
  refine a_get (v := .ref 99) dX11_hypotheses_83 fl_11_41 (cm_l h18 (by decide)) (cm_s h18 (by decide) rfl) (cm_g h18 rfl (by decide +kernel)) ?_
  refine a_iload_n dX11_hypotheses_86 rfl rfl ?_
  refine a_iaload dX11_hypotheses_87 (cm_l h18 (by decide)) (cm_s h18 (by decide) rfl) (by unfold vp_in; decide +kernel) ?_
  rw [show M18.2.2.1 99 (Int32.toNatClampNeg 12) = 0 from (cm_i h18 (by decide)).trans (by first | decide +kernel | rfl)]
  refine a_iastore dX11_hypotheses_88 (cm_l h18 (by decide)) (cm_s h18 (by decide) rfl) (by unfold vp_in; decide +kernel) ?_
  rw [show Int32.toNatClampNeg 12 = 12 from by decide +kernel]
  have h19 : Cm (up2 (up2 (up2 (up2 (up2 (up2 (up2 (up2 (up2 (up2 (up2 (up2 (up2 (up2 (up2 (up2 (up2 (up2 (up2 (up2 (up2 (up2 (up2 fs42 89 0 0) 89 27 0) 89 28 0) 89 29 0) 89 30 0) 89 31 (-1)) 89 35 0) 89 32 0) 89 33 (-1)) 89 15 0) 96 0 0) 96 1 0) 96 2 0) 96 3 0) 96 4 0) 96 5 0) 96 6 0) 96 7 0) 96 8 0) 96 9 0) 96 10 0) 96 11 0) 96 12 0) (wI M18 96 12 0) := cm_I h18 (by decide)
  generalize (wI M18 96 12 0) = M19 at h19 ⊢
  refine a_iinc (v := 13) dX11_hypotheses_89 rfl (by decide) (Nat.le_of_ble_eq_true rfl) (lv2 := [(2, .int 13), (0, .ref 89), (1, .int 0)]) rfl ?_
  refine a_goto 71 dX11_hypotheses_92 (by decide) ?_
  refine a_iload_n dX11_hypotheses_71 rfl rfl ?_
  refine a_bipush (v := 24) dX11_hypotheses_72 (by decide) ?_
  refine a_icmp_ge 95 dX11_hypotheses_74 (by decide) (fun c => absurd c (by decide)) (fun _ => ?_)
  refine a_aload_n dX11_hypotheses_77 rfl rfl ?_
  refine a_get (v := .ref 96) dX11_hypotheses_78 fl_11_32 (cm_l h19 (by decide)) (cm_s h19 (by decide) rfl) (cm_g h19 rfl (by decide +kernel)) ?_
  refine a_iload_n dX11_hypotheses_81 rfl rfl ?_
  refine a_aload_n dX11_hypotheses_82 rfl rfl ?_
  refine a_get (v := .ref 99) dX11_hypotheses_83 fl_11_41 (cm_l h19 (by decide)) (cm_s h19 (by decide) rfl) (cm_g h19 rfl (by decide +kernel)) ?_
  refine a_iload_n dX11_hypotheses_86 rfl rfl ?_
  refine a_iaload dX11_hypotheses_87 (cm_l h19 (by decide)) (cm_s h19 (by decide) rfl) (by unfold vp_in; decide +kernel) ?_
  rw [show M19.2.2.1 99 (Int32.toNatClampNeg 13) = 0 from (cm_i h19 (by decide)).trans (by first | decide +kernel | rfl)]
  refine a_iastore dX11_hypotheses_88 (cm_l h19 (by decide)) (cm_s h19 (by decide) rfl) (by unfold vp_in; decide +kernel) ?_
  rw [show Int32.toNatClampNeg 13 = 13 from by decide +kernel]
  have h20 : Cm (up2 (up2 (up2 (up2 (up2 (up2 (up2 (up2 (up2 (up2 (up2 (up2 (up2 (up2 (up2 (up2 (up2 (up2 (up2 (up2 (up2 (up2 (up2 (up2 fs42 89 0 0) 89 27 0) 89 28 0) 89 29 0) 89 30 0) 89 31 (-1)) 89 35 0) 89 32 0) 89 33 (-1)) 89 15 0) 96 0 0) 96 1 0) 96 2 0) 96 3 0) 96 4 0) 96 5 0) 96 6 0) 96 7 0) 96 8 0) 96 9 0) 96 10 0) 96 11 0) 96 12 0) 96 13 0) (wI M19 96 13 0) := cm_I h19 (by decide)
  generalize (wI M19 96 13 0) = M20 at h20 ⊢
  refine a_iinc (v := 14) dX11_hypotheses_89 rfl (by decide) (Nat.le_of_ble_eq_true rfl) (lv2 := [(2, .int 14), (0, .ref 89), (1, .int 0)]) rfl ?_
  refine a_goto 71 dX11_hypotheses_92 (by decide) ?_
  refine a_iload_n dX11_hypotheses_71 rfl rfl ?_
  refine a_bipush (v := 24) dX11_hypotheses_72 (by decide) ?_
  refine a_icmp_ge 95 dX11_hypotheses_74 (by decide) (fun c => absurd c (by decide)) (fun _ => ?_)
  refine a_aload_n dX11_hypotheses_77 rfl rfl ?_
  refine a_get (v := .ref 96) dX11_hypotheses_78 fl_11_32 (cm_l h20 (by decide)) (cm_s h20 (by decide) rfl) (cm_g h20 rfl (by decide +kernel)) ?_
  refine a_iload_n dX11_hypotheses_81 rfl rfl ?_
  refine a_aload_n dX11_hypotheses_82 rfl rfl ?_
  refine a_get (v := .ref 99) dX11_hypotheses_83 fl_11_41 (cm_l h20 (by decide)) (cm_s h20 (by decide) rfl) (cm_g h20 rfl (by decide +kernel)) ?_
  refine a_iload_n dX11_hypotheses_86 rfl rfl ?_
  refine a_iaload dX11_hypotheses_87 (cm_l h20 (by decide)) (cm_s h20 (by decide) rfl) (by unfold vp_in; decide +kernel) ?_
  rw [show M20.2.2.1 99 (Int32.toNatClampNeg 14) = 0 from (cm_i h20 (by decide)).trans (by first | decide +kernel | rfl)]
  refine a_iastore dX11_hypotheses_88 (cm_l h20 (by decide)) (cm_s h20 (by decide) rfl) (by unfold vp_in; decide +kernel) ?_
  rw [show Int32.toNatClampNeg 14 = 14 from by decide +kernel]
  have h21 : Cm (up2 (up2 (up2 (up2 (up2 (up2 (up2 (up2 (up2 (up2 (up2 (up2 (up2 (up2 (up2 (up2 (up2 (up2 (up2 (up2 (up2 (up2 (up2 (up2 (up2 fs42 89 0 0) 89 27 0) 89 28 0) 89 29 0) 89 30 0) 89 31 (-1)) 89 35 0) 89 32 0) 89 33 (-1)) 89 15 0) 96 0 0) 96 1 0) 96 2 0) 96 3 0) 96 4 0) 96 5 0) 96 6 0) 96 7 0) 96 8 0) 96 9 0) 96 10 0) 96 11 0) 96 12 0) 96 13 0) 96 14 0) (wI M20 96 14 0) := cm_I h20 (by decide)
  generalize (wI M20 96 14 0) = M21 at h21 ⊢
  refine a_iinc (v := 15) dX11_hypotheses_89 rfl (by decide) (Nat.le_of_ble_eq_true rfl) (lv2 := [(2, .int 15), (0, .ref 89), (1, .int 0)]) rfl ?_
  refine a_goto 71 dX11_hypotheses_92 (by decide) ?_
  refine a_iload_n dX11_hypotheses_71 rfl rfl ?_
  refine a_bipush (v := 24) dX11_hypotheses_72 (by decide) ?_
  refine a_icmp_ge 95 dX11_hypotheses_74 (by decide) (fun c => absurd c (by decide)) (fun _ => ?_)
  refine a_aload_n dX11_hypotheses_77 rfl rfl ?_
  refine a_get (v := .ref 96) dX11_hypotheses_78 fl_11_32 (cm_l h21 (by decide)) (cm_s h21 (by decide) rfl) (cm_g h21 rfl (by decide +kernel)) ?_
  refine a_iload_n dX11_hypotheses_81 rfl rfl ?_
  refine a_aload_n dX11_hypotheses_82 rfl rfl ?_
  refine a_get (v := .ref 99) dX11_hypotheses_83 fl_11_41 (cm_l h21 (by decide)) (cm_s h21 (by decide) rfl) (cm_g h21 rfl (by decide +kernel)) ?_
  refine a_iload_n dX11_hypotheses_86 rfl rfl ?_
  refine a_iaload dX11_hypotheses_87 (cm_l h21 (by decide)) (cm_s h21 (by decide) rfl) (by unfold vp_in; decide +kernel) ?_
  rw [show M21.2.2.1 99 (Int32.toNatClampNeg 15) = 0 from (cm_i h21 (by decide)).trans (by first | decide +kernel | rfl)]
  refine a_iastore dX11_hypotheses_88 (cm_l h21 (by decide)) (cm_s h21 (by decide) rfl) (by unfold vp_in; decide +kernel) ?_
  rw [show Int32.toNatClampNeg 15 = 15 from by decide +kernel]
  have h22 : Cm (up2 (up2 (up2 (up2 (up2 (up2 (up2 (up2 (up2 (up2 (up2 (up2 (up2 (up2 (up2 (up2 (up2 (up2 (up2 (up2 (up2 (up2 (up2 (up2 (up2 (up2 fs42 89 0 0) 89 27 0) 89 28 0) 89 29 0) 89 30 0) 89 31 (-1)) 89 35 0) 89 32 0) 89 33 (-1)) 89 15 0) 96 0 0) 96 1 0) 96 2 0) 96 3 0) 96 4 0) 96 5 0) 96 6 0) 96 7 0) 96 8 0) 96 9 0) 96 10 0) 96 11 0) 96 12 0) 96 13 0) 96 14 0) 96 15 0) (wI M21 96 15 0) := cm_I h21 (by decide)
  generalize (wI M21 96 15 0) = M22 at h22 ⊢
  refine a_iinc (v := 16) dX11_hypotheses_89 rfl (by decide) (Nat.le_of_ble_eq_true rfl) (lv2 := [(2, .int 16), (0, .ref 89), (1, .int 0)]) rfl ?_
  refine a_goto 71 dX11_hypotheses_92 (by decide) ?_
  refine a_iload_n dX11_hypotheses_71 rfl rfl ?_
  refine a_bipush (v := 24) dX11_hypotheses_72 (by decide) ?_
  refine a_icmp_ge 95 dX11_hypotheses_74 (by decide) (fun c => absurd c (by decide)) (fun _ => ?_)
  refine a_aload_n dX11_hypotheses_77 rfl rfl ?_
  refine a_get (v := .ref 96) dX11_hypotheses_78 fl_11_32 (cm_l h22 (by decide)) (cm_s h22 (by decide) rfl) (cm_g h22 rfl (by decide +kernel)) ?_
  refine a_iload_n dX11_hypotheses_81 rfl rfl ?_
  refine a_aload_n dX11_hypotheses_82 rfl rfl ?_
  refine a_get (v := .ref 99) dX11_hypotheses_83 fl_11_41 (cm_l h22 (by decide)) (cm_s h22 (by decide) rfl) (cm_g h22 rfl (by decide +kernel)) ?_
  refine a_iload_n dX11_hypotheses_86 rfl rfl ?_
  refine a_iaload dX11_hypotheses_87 (cm_l h22 (by decide)) (cm_s h22 (by decide) rfl) (by unfold vp_in; decide +kernel) ?_
  rw [show M22.2.2.1 99 (Int32.toNatClampNeg 16) = 0 from (cm_i h22 (by decide)).trans (by first | decide +kernel | rfl)]
  refine a_iastore dX11_hypotheses_88 (cm_l h22 (by decide)) (cm_s h22 (by decide) rfl) (by unfold vp_in; decide +kernel) ?_
  rw [show Int32.toNatClampNeg 16 = 16 from by decide +kernel]
  have h23 : Cm (up2 (up2 (up2 (up2 (up2 (up2 (up2 (up2 (up2 (up2 (up2 (up2 (up2 (up2 (up2 (up2 (up2 (up2 (up2 (up2 (up2 (up2 (up2 (up2 (up2 (up2 (up2 fs42 89 0 0) 89 27 0) 89 28 0) 89 29 0) 89 30 0) 89 31 (-1)) 89 35 0) 89 32 0) 89 33 (-1)) 89 15 0) 96 0 0) 96 1 0) 96 2 0) 96 3 0) 96 4 0) 96 5 0) 96 6 0) 96 7 0) 96 8 0) 96 9 0) 96 10 0) 96 11 0) 96 12 0) 96 13 0) 96 14 0) 96 15 0) 96 16 0) (wI M22 96 16 0) := cm_I h22 (by decide)
  generalize (wI M22 96 16 0) = M23 at h23 ⊢
  refine a_iinc (v := 17) dX11_hypotheses_89 rfl (by decide) (Nat.le_of_ble_eq_true rfl) (lv2 := [(2, .int 17), (0, .ref 89), (1, .int 0)]) rfl ?_
  refine a_goto 71 dX11_hypotheses_92 (by decide) ?_
  refine a_iload_n dX11_hypotheses_71 rfl rfl ?_
  refine a_bipush (v := 24) dX11_hypotheses_72 (by decide) ?_
  refine a_icmp_ge 95 dX11_hypotheses_74 (by decide) (fun c => absurd c (by decide)) (fun _ => ?_)
  refine a_aload_n dX11_hypotheses_77 rfl rfl ?_
  refine a_get (v := .ref 96) dX11_hypotheses_78 fl_11_32 (cm_l h23 (by decide)) (cm_s h23 (by decide) rfl) (cm_g h23 rfl (by decide +kernel)) ?_
  refine a_iload_n dX11_hypotheses_81 rfl rfl ?_
  refine a_aload_n dX11_hypotheses_82 rfl rfl ?_
  refine a_get (v := .ref 99) dX11_hypotheses_83 fl_11_41 (cm_l h23 (by decide)) (cm_s h23 (by decide) rfl) (cm_g h23 rfl (by decide +kernel)) ?_
  refine a_iload_n dX11_hypotheses_86 rfl rfl ?_
  refine a_iaload dX11_hypotheses_87 (cm_l h23 (by decide)) (cm_s h23 (by decide) rfl) (by unfold vp_in; decide +kernel) ?_
  rw [show M23.2.2.1 99 (Int32.toNatClampNeg 17) = 0 from (cm_i h23 (by decide)).trans (by first | decide +kernel | rfl)]
  refine a_iastore dX11_hypotheses_88 (cm_l h23 (by decide)) (cm_s h23 (by decide) rfl) (by unfold vp_in; decide +kernel) ?_
  rw [show Int32.toNatClampNeg 17 = 17 from by decide +kernel]
  have h24 : Cm (up2 (up2 (up2 (up2 (up2 (up2 (up2 (up2 (up2 (up2 (up2 (up2 (up2 (up2 (up2 (up2 (up2 (up2 (up2 (up2 (up2 (up2 (up2 (up2 (up2 (up2 (up2 (up2 fs42 89 0 0) 89 27 0) 89 28 0) 89 29 0) 89 30 0) 89 31 (-1)) 89 35 0) 89 32 0) 89 33 (-1)) 89 15 0) 96 0 0) 96 1 0) 96 2 0) 96 3 0) 96 4 0) 96 5 0) 96 6 0) 96 7 0) 96 8 0) 96 9 0) 96 10 0) 96 11 0) 96 12 0) 96 13 0) 96 14 0) 96 15 0) 96 16 0) 96 17 0) (wI M23 96 17 0) := cm_I h23 (by decide)
  generalize (wI M23 96 17 0) = M24 at h24 ⊢
  refine a_iinc (v := 18) dX11_hypotheses_89 rfl (by decide) (Nat.le_of_ble_eq_true rfl) (lv2 := [(2, .int 18), (0, .ref 89), (1, .int 0)]) rfl ?_
  refine a_goto 71 dX11_hypotheses_92 (by decide) ?_
  refine a_iload_n dX11_hypotheses_71 rfl rfl ?_
  refine a_bipush (v := 24) dX11_hypotheses_72 (by decide) ?_
  refine a_icmp_ge 95 dX11_hypotheses_74 (by decide) (fun c => absurd c (by decide)) (fun _ => ?_)
  refine a_aload_n dX11_hypotheses_77 rfl rfl ?_
  refine a_get (v := .ref 96) dX11_hypotheses_78 fl_11_32 (cm_l h24 (by decide)) (cm_s h24 (by decide) rfl) (cm_g h24 rfl (by decide +kernel)) ?_
  refine a_iload_n dX11_hypotheses_81 rfl rfl ?_
  refine a_aload_n dX11_hypotheses_82 rfl rfl ?_
  refine a_get (v := .ref 99) dX11_hypotheses_83 fl_11_41 (cm_l h24 (by decide)) (cm_s h24 (by decide) rfl) (cm_g h24 rfl (by decide +kernel)) ?_
  refine a_iload_n dX11_hypotheses_86 rfl rfl ?_
  refine a_iaload dX11_hypotheses_87 (cm_l h24 (by decide)) (cm_s h24 (by decide) rfl) (by unfold vp_in; decide +kernel) ?_
  rw [show M24.2.2.1 99 (Int32.toNatClampNeg 18) = 0 from (cm_i h24 (by decide)).trans (by first | decide +kernel | rfl)]
  refine a_iastore dX11_hypotheses_88 (cm_l h24 (by decide)) (cm_s h24 (by decide) rfl) (by unfold vp_in; decide +kernel) ?_
  rw [show Int32.toNatClampNeg 18 = 18 from by decide +kernel]
  have h25 : Cm (up2 (up2 (up2 (up2 (up2 (up2 (up2 (up2 (up2 (up2 (up2 (up2 (up2 (up2 (up2 (up2 (up2 (up2 (up2 (up2 (up2 (up2 (up2 (up2 (up2 (up2 (up2 (up2 (up2 fs42 89 0 0) 89 27 0) 89 28 0) 89 29 0) 89 30 0) 89 31 (-1)) 89 35 0) 89 32 0) 89 33 (-1)) 89 15 0) 96 0 0) 96 1 0) 96 2 0) 96 3 0) 96 4 0) 96 5 0) 96 6 0) 96 7 0) 96 8 0) 96 9 0) 96 10 0) 96 11 0) 96 12 0) 96 13 0) 96 14 0) 96 15 0) 96 16 0) 96 17 0) 96 18 0) (wI M24 96 18 0) := cm_I h24 (by decide)
  generalize (wI M24 96 18 0) = M25 at h25 ⊢
  refine a_iinc (v := 19) dX11_hypotheses_89 rfl (by decide) (Nat.le_of_ble_eq_true rfl) (lv2 := [(2, .int 19), (0, .ref 89), (1, .int 0)]) rfl ?_
  refine a_goto 71 dX11_hypotheses_92 (by decide) ?_
  refine a_iload_n dX11_hypotheses_71 rfl rfl ?_
  refine a_bipush (v := 24) dX11_hypotheses_72 (by decide) ?_
  refine a_icmp_ge 95 dX11_hypotheses_74 (by decide) (fun c => absurd c (by decide)) (fun _ => ?_)
  refine a_aload_n dX11_hypotheses_77 rfl rfl ?_
  refine a_get (v := .ref 96) dX11_hypotheses_78 fl_11_32 (cm_l h25 (by decide)) (cm_s h25 (by decide) rfl) (cm_g h25 rfl (by decide +kernel)) ?_
  refine a_iload_n dX11_hypotheses_81 rfl rfl ?_
  refine a_aload_n dX11_hypotheses_82 rfl rfl ?_
  refine a_get (v := .ref 99) dX11_hypotheses_83 fl_11_41 (cm_l h25 (by decide)) (cm_s h25 (by decide) rfl) (cm_g h25 rfl (by decide +kernel)) ?_
  refine a_iload_n dX11_hypotheses_86 rfl rfl ?_
  refine a_iaload dX11_hypotheses_87 (cm_l h25 (by decide)) (cm_s h25 (by decide) rfl) (by unfold vp_in; decide +kernel) ?_
  rw [show M25.2.2.1 99 (Int32.toNatClampNeg 19) = 0 from (cm_i h25 (by decide)).trans (by first | decide +kernel | rfl)]
  refine a_iastore dX11_hypotheses_88 (cm_l h25 (by decide)) (cm_s h25 (by decide) rfl) (by unfold vp_in; decide +kernel) ?_
  rw [show Int32.toNatClampNeg 19 = 19 from by decide +kernel]
  have h26 : Cm (up2 (up2 (up2 (up2 (up2 (up2 (up2 (up2 (up2 (up2 (up2 (up2 (up2 (up2 (up2 (up2 (up2 (up2 (up2 (up2 (up2 (up2 (up2 (up2 (up2 (up2 (up2 (up2 (up2 (up2 fs42 89 0 0) 89 27 0) 89 28 0) 89 29 0) 89 30 0) 89 31 (-1)) 89 35 0) 89 32 0) 89 33 (-1)) 89 15 0) 96 0 0) 96 1 0) 96 2 0) 96 3 0) 96 4 0) 96 5 0) 96 6 0) 96 7 0) 96 8 0) 96 9 0) 96 10 0) 96 11 0) 96 12 0) 96 13 0) 96 14 0) 96 15 0) 96 16 0) 96 17 0) 96 18 0) 96 19 0) (wI M25 96 19 0) := cm_I h25 (by decide)
  generalize (wI M25 96 19 0) = M26 at h26 ⊢
  refine a_iinc (v := 20) dX11_hypotheses_89 rfl (by decide) (Nat.le_of_ble_eq_true rfl) (lv2 := [(2, .int 20), (0, .ref 89), (1, .int 0)]) rfl ?_
  refine a_goto 71 dX11_hypotheses_92 (by decide) ?_
  refine a_iload_n dX11_hypotheses_71 rfl rfl ?_
  refine a_bipush (v := 24) dX11_hypotheses_72 (by decide) ?_
  refine a_icmp_ge 95 dX11_hypotheses_74 (by decide) (fun c => absurd c (by decide)) (fun _ => ?_)
  refine a_aload_n dX11_hypotheses_77 rfl rfl ?_
  refine a_get (v := .ref 96) dX11_hypotheses_78 fl_11_32 (cm_l h26 (by decide)) (cm_s h26 (by decide) rfl) (cm_g h26 rfl (by decide +kernel)) ?_
  refine a_iload_n dX11_hypotheses_81 rfl rfl ?_
  refine a_aload_n dX11_hypotheses_82 rfl rfl ?_
  refine a_get (v := .ref 99) dX11_hypotheses_83 fl_11_41 (cm_l h26 (by decide)) (cm_s h26 (by decide) rfl) (cm_g h26 rfl (by decide +kernel)) ?_
  refine a_iload_n dX11_hypotheses_86 rfl rfl ?_
  refine a_iaload dX11_hypotheses_87 (cm_l h26 (by decide)) (cm_s h26 (by decide) rfl) (by unfold vp_in; decide +kernel) ?_
  rw [show M26.2.2.1 99 (Int32.toNatClampNeg 20) = 0 from (cm_i h26 (by decide)).trans (by first | decide +kernel | rfl)]
  refine a_iastore dX11_hypotheses_88 (cm_l h26 (by decide)) (cm_s h26 (by decide) rfl) (by unfold vp_in; decide +kernel) ?_
  rw [show Int32.toNatClampNeg 20 = 20 from by decide +kernel]
  have h27 : Cm (up2 (up2 (up2 (up2 (up2 (up2 (up2 (up2 (up2 (up2 (up2 (up2 (up2 (up2 (up2 (up2 (up2 (up2 (up2 (up2 (up2 (up2 (up2 (up2 (up2 (up2 (up2 (up2 (up2 (up2 (up2 fs42 89 0 0) 89 27 0) 89 28 0) 89 29 0) 89 30 0) 89 31 (-1)) 89 35 0) 89 32 0) 89 33 (-1)) 89 15 0) 96 0 0) 96 1 0) 96 2 0) 96 3 0) 96 4 0) 96 5 0) 96 6 0) 96 7 0) 96 8 0) 96 9 0) 96 10 0) 96 11 0) 96 12 0) 96 13 0) 96 14 0) 96 15 0) 96 16 0) 96 17 0) 96 18 0) 96 19 0) 96 20 0) (wI M26 96 20 0) := cm_I h26 (by decide)
  generalize (wI M26 96 20 0) = M27 at h27 ⊢
  refine a_iinc (v := 21) dX11_hypotheses_89 rfl (by decide) (Nat.le_of_ble_eq_true rfl) (lv2 := [(2, .int 21), (0, .ref 89), (1, .int 0)]) rfl ?_
  refine a_goto 71 dX11_hypotheses_92 (by decide) ?_
  refine a_iload_n dX11_hypotheses_71 rfl rfl ?_
  refine a_bipush (v := 24) dX11_hypotheses_72 (by decide) ?_
  refine a_icmp_ge 95 dX11_hypotheses_74 (by decide) (fun c => absurd c (by decide)) (fun _ => ?_)
  refine a_aload_n dX11_hypotheses_77 rfl rfl ?_
  refine a_get (v := .ref 96) dX11_hypotheses_78 fl_11_32 (cm_l h27 (by decide)) (cm_s h27 (by decide) rfl) (cm_g h27 rfl (by decide +kernel)) ?_
  refine a_iload_n dX11_hypotheses_81 rfl rfl ?_
  refine a_aload_n dX11_hypotheses_82 rfl rfl ?_
  refine a_get (v := .ref 99) dX11_hypotheses_83 fl_11_41 (cm_l h27 (by decide)) (cm_s h27 (by decide) rfl) (cm_g h27 rfl (by decide +kernel)) ?_
  refine a_iload_n dX11_hypotheses_86 rfl rfl ?_
  refine a_iaload dX11_hypotheses_87 (cm_l h27 (by decide)) (cm_s h27 (by decide) rfl) (by unfold vp_in; decide +kernel) ?_
  rw [show M27.2.2.1 99 (Int32.toNatClampNeg 21) = 0 from (cm_i h27 (by decide)).trans (by first | decide +kernel | rfl)]
  refine a_iastore dX11_hypotheses_88 (cm_l h27 (by decide)) (cm_s h27 (by decide) rfl) (by unfold vp_in; decide +kernel) ?_
  rw [show Int32.toNatClampNeg 21 = 21 from by decide +kernel]
  have h28 : Cm (up2 (up2 (up2 (up2 (up2 (up2 (up2 (up2 (up2 (up2 (up2 (up2 (up2 (up2 (up2 (up2 (up2 (up2 (up2 (up2 (up2 (up2 (up2 (up2 (up2 (up2 (up2 (up2 (up2 (up2 (up2 (up2 fs42 89 0 0) 89 27 0) 89 28 0) 89 29 0) 89 30 0) 89 31 (-1)) 89 35 0) 89 32 0) 89 33 (-1)) 89 15 0) 96 0 0) 96 1 0) 96 2 0) 96 3 0) 96 4 0) 96 5 0) 96 6 0) 96 7 0) 96 8 0) 96 9 0) 96 10 0) 96 11 0) 96 12 0) 96 13 0) 96 14 0) 96 15 0) 96 16 0) 96 17 0) 96 18 0) 96 19 0) 96 20 0) 96 21 0) (wI M27 96 21 0) := cm_I h27 (by decide)
  generalize (wI M27 96 21 0) = M28 at h28 ⊢
  refine a_iinc (v := 22) dX11_hypotheses_89 rfl (by decide) (Nat.le_of_ble_eq_true rfl) (lv2 := [(2, .int 22), (0, .ref 89), (1, .int 0)]) rfl ?_
  refine a_goto 71 dX11_hypotheses_92 (by decide) ?_
  refine a_iload_n dX11_hypotheses_71 rfl rfl ?_
  refine a_bipush (v := 24) dX11_hypotheses_72 (by decide) ?_
  refine a_icmp_ge 95 dX11_hypotheses_74 (by decide) (fun c => absurd c (by decide)) (fun _ => ?_)
  refine a_aload_n dX11_hypotheses_77 rfl rfl ?_
  refine a_get (v := .ref 96) dX11_hypotheses_78 fl_11_32 (cm_l h28 (by decide)) (cm_s h28 (by decide) rfl) (cm_g h28 rfl (by decide +kernel)) ?_
  refine a_iload_n dX11_hypotheses_81 rfl rfl ?_
  refine a_aload_n dX11_hypotheses_82 rfl rfl ?_
  refine a_get (v := .ref 99) dX11_hypotheses_83 fl_11_41 (cm_l h28 (by decide)) (cm_s h28 (by decide) rfl) (cm_g h28 rfl (by decide +kernel)) ?_
  refine a_iload_n dX11_hypotheses_86 rfl rfl ?_
  refine a_iaload dX11_hypotheses_87 (cm_l h28 (by decide)) (cm_s h28 (by decide) rfl) (by unfold vp_in; decide +kernel) ?_
  rw [show M28.2.2.1 99 (Int32.toNatClampNeg 22) = 0 from (cm_i h28 (by decide)).trans (by first | decide +kernel | rfl)]
  refine a_iastore dX11_hypotheses_88 (cm_l h28 (by decide)) (cm_s h28 (by decide) rfl) (by unfold vp_in; decide +kernel) ?_
  rw [show Int32.toNatClampNeg 22 = 22 from by decide +kernel]
  have h29 : Cm (up2 (up2 (up2 (up2 (up2 (up2 (up2 (up2 (up2 (up2 (up2 (up2 (up2 (up2 (up2 (up2 (up2 (up2 (up2 (up2 (up2 (up2 (up2 (up2 (up2 (up2 (up2 (up2 (up2 (up2 (up2 (up2 (up2 fs42 89 0 0) 89 27 0) 89 28 0) 89 29 0) 89 30 0) 89 31 (-1)) 89 35 0) 89 32 0) 89 33 (-1)) 89 15 0) 96 0 0) 96 1 0) 96 2 0) 96 3 0) 96 4 0) 96 5 0) 96 6 0) 96 7 0) 96 8 0) 96 9 0) 96 10 0) 96 11 0) 96 12 0) 96 13 0) 96 14 0) 96 15 0) 96 16 0) 96 17 0) 96 18 0) 96 19 0) 96 20 0) 96 21 0) 96 22 0) (wI M28 96 22 0) := cm_I h28 (by decide)
  generalize (wI M28 96 22 0) = M29 at h29 ⊢
  refine a_iinc (v := 23) dX11_hypotheses_89 rfl (by decide) (Nat.le_of_ble_eq_true rfl) (lv2 := [(2, .int 23), (0, .ref 89), (1, .int 0)]) rfl ?_
  refine a_goto 71 dX11_hypotheses_92 (by decide) ?_
  refine a_iload_n dX11_hypotheses_71 rfl rfl ?_
  refine a_bipush (v := 24) dX11_hypotheses_72 (by decide) ?_
  refine a_icmp_ge 95 dX11_hypotheses_74 (by decide) (fun c => absurd c (by decide)) (fun _ => ?_)
  refine a_aload_n dX11_hypotheses_77 rfl rfl ?_
  refine a_get (v := .ref 96) dX11_hypotheses_78 fl_11_32 (cm_l h29 (by decide)) (cm_s h29 (by decide) rfl) (cm_g h29 rfl (by decide +kernel)) ?_
  refine a_iload_n dX11_hypotheses_81 rfl rfl ?_
  refine a_aload_n dX11_hypotheses_82 rfl rfl ?_
  refine a_get (v := .ref 99) dX11_hypotheses_83 fl_11_41 (cm_l h29 (by decide)) (cm_s h29 (by decide) rfl) (cm_g h29 rfl (by decide +kernel)) ?_
  refine a_iload_n dX11_hypotheses_86 rfl rfl ?_
  refine a_iaload dX11_hypotheses_87 (cm_l h29 (by decide)) (cm_s h29 (by decide) rfl) (by unfold vp_in; decide +kernel) ?_
  rw [show M29.2.2.1 99 (Int32.toNatClampNeg 23) = 0 from (cm_i h29 (by decide)).trans (by first | decide +kernel | rfl)]
  refine a_iastore dX11_hypotheses_88 (cm_l h29 (by decide)) (cm_s h29 (by decide) rfl) (by unfold vp_in; decide +kernel) ?_
  rw [show Int32.toNatClampNeg 23 = 23 from by decide +kernel]
  have h30 : Cm (up2 (up2 (up2 (up2 (up2 (up2 (up2 (up2 (up2 (up2 (up2 (up2 (up2 (up2 (up2 (up2 (up2 (up2 (up2 (up2 (up2 (up2 (up2 (up2 (up2 (up2 (up2 (up2 (up2 (up2 (up2 (up2 (up2 (up2 fs42 89 0 0) 89 27 0) 89 28 0) 89 29 0) 89 30 0) 89 31 (-1)) 89 35 0) 89 32 0) 89 33 (-1)) 89 15 0) 96 0 0) 96 1 0) 96 2 0) 96 3 0) 96 4 0) 96 5 0) 96 6 0) 96 7 0) 96 8 0) 96 9 0) 96 10 0) 96 11 0) 96 12 0) 96 13 0) 96 14 0) 96 15 0) 96 16 0) 96 17 0) 96 18 0) 96 19 0) 96 20 0) 96 21 0) 96 22 0) 96 23 0) (wI M29 96 23 0) := cm_I h29 (by decide)
  generalize (wI M29 96 23 0) = M30 at h30 ⊢
  refine a_iinc (v := 24) dX11_hypotheses_89 rfl (by decide) (Nat.le_of_ble_eq_true rfl) (lv2 := [(2, .int 24), (0, .ref 89), (1, .int 0)]) rfl ?_
  refine a_goto 71 dX11_hypotheses_92 (by decide) ?_
  refine a_iload_n dX11_hypotheses_71 rfl rfl ?_
  refine a_bipush (v := 24) dX11_hypotheses_72 (by decide) ?_
  refine a_icmp_ge 95 dX11_hypotheses_74 (by decide) (fun _ => ?_) (fun c => absurd (by decide) c)
  refine a_iconst (v := 0) dX11_hypotheses_95 (by decide) ?_
  refine a_istore_n dX11_hypotheses_96 rfl (Nat.le_of_ble_eq_true rfl) (lv2 := [(2, .int 0), (0, .ref 89), (1, .int 0)]) rfl ?_
  refine a_iload_n dX11_hypotheses_97 rfl rfl ?_
  refine a_bipush (v := 6) dX11_hypotheses_98 (by decide) ?_
  refine a_icmp_ge 133 dX11_hypotheses_100 (by decide) (fun c => absurd c (by decide)) (fun _ => ?_)
  refine a_aload_n dX11_hypotheses_103 rfl rfl ?_
  refine a_get (v := .ref 97) dX11_hypotheses_104 fl_11_35 (cm_l h30 (by decide)) (cm_s h30 (by decide) rfl) (cm_g h30 rfl (by decide +kernel)) ?_
  refine a_iload_n dX11_hypotheses_107 rfl rfl ?_
  refine a_aload_n dX11_hypotheses_108 rfl rfl ?_
  refine a_get (v := .ref 100) dX11_hypotheses_109 fl_11_44 (cm_l h30 (by decide)) (cm_s h30 (by decide) rfl) (cm_g h30 rfl (by decide +kernel)) ?_
  refine a_iload_n dX11_hypotheses_112 rfl rfl ?_
  refine a_iaload dX11_hypotheses_113 (cm_l h30 (by decide)) (cm_s h30 (by decide) rfl) (by unfold vp_in; decide +kernel) ?_
  rw [show M30.2.2.1 100 (Int32.toNatClampNeg 0) = 0 from (cm_i h30 (by decide)).trans (by first | decide +kernel | rfl)]
  refine a_iastore dX11_hypotheses_114 (cm_l h30 (by decide)) (cm_s h30 (by decide) rfl) (by unfold vp_in; decide +kernel) ?_
  rw [show Int32.toNatClampNeg 0 = 0 from by decide +kernel]
  have h31 : Cm (up2 (up2 (up2 (up2 (up2 (up2 (up2 (up2 (up2 (up2 (up2 (up2 (up2 (up2 (up2 (up2 (up2 (up2 (up2 (up2 (up2 (up2 (up2 (up2 (up2 (up2 (up2 (up2 (up2 (up2 (up2 (up2 (up2 (up2 (up2 fs42 89 0 0) 89 27 0) 89 28 0) 89 29 0) 89 30 0) 89 31 (-1)) 89 35 0) 89 32 0) 89 33 (-1)) 89 15 0) 96 0 0) 96 1 0) 96 2 0) 96 3 0) 96 4 0) 96 5 0) 96 6 0) 96 7 0) 96 8 0) 96 9 0) 96 10 0) 96 11 0) 96 12 0) 96 13 0) 96 14 0) 96 15 0) 96 16 0) 96 17 0) 96 18 0) 96 19 0) 96 20 0) 96 21 0) 96 22 0) 96 23 0) 97 0 0) (wI M30 97 0 0) := cm_I h30 (by decide)
  generalize (wI M30 97 0 0) = M31 at h31 ⊢
  refine a_aload_n dX11_hypotheses_115 rfl rfl ?_
  refine a_get (v := .ref 98) dX11_hypotheses_116 fl_11_38 (cm_l h31 (by decide)) (cm_s h31 (by decide) rfl) (cm_g h31 rfl (by decide +kernel)) ?_
  refine a_iload_n dX11_hypotheses_119 rfl rfl ?_
  refine a_aload_n dX11_hypotheses_120 rfl rfl ?_
  refine a_get (v := .ref 101) dX11_hypotheses_121 fl_11_47 (cm_l h31 (by decide)) (cm_s h31 (by decide) rfl) (cm_g h31 rfl (by decide +kernel)) ?_
  refine a_iload_n dX11_hypotheses_124 rfl rfl ?_
  refine a_iaload dX11_hypotheses_125 (cm_l h31 (by decide)) (cm_s h31 (by decide) rfl) (by unfold vp_in; decide +kernel) ?_
  rw [show M31.2.2.1 101 (Int32.toNatClampNeg 0) = 0 from (cm_i h31 (by decide)).trans (by first | decide +kernel | rfl)]
  refine a_iastore dX11_hypotheses_126 (cm_l h31 (by decide)) (cm_s h31 (by decide) rfl) (by unfold vp_in; decide +kernel) ?_
  rw [show Int32.toNatClampNeg 0 = 0 from by decide +kernel]
  have h32 : Cm (up2 (up2 (up2 (up2 (up2 (up2 (up2 (up2 (up2 (up2 (up2 (up2 (up2 (up2 (up2 (up2 (up2 (up2 (up2 (up2 (up2 (up2 (up2 (up2 (up2 (up2 (up2 (up2 (up2 (up2 (up2 (up2 (up2 (up2 (up2 (up2 fs42 89 0 0) 89 27 0) 89 28 0) 89 29 0) 89 30 0) 89 31 (-1)) 89 35 0) 89 32 0) 89 33 (-1)) 89 15 0) 96 0 0) 96 1 0) 96 2 0) 96 3 0) 96 4 0) 96 5 0) 96 6 0) 96 7 0) 96 8 0) 96 9 0) 96 10 0) 96 11 0) 96 12 0) 96 13 0) 96 14 0) 96 15 0) 96 16 0) 96 17 0) 96 18 0) 96 19 0) 96 20 0) 96 21 0) 96 22 0) 96 23 0) 97 0 0) 98 0 0) (wI M31 98 0 0) := cm_I h31 (by decide)
  generalize (wI M31 98 0 0) = M32 at h32 ⊢
  refine a_iinc (v := 1) dX11_hypotheses_127 rfl (by decide) (Nat.le_of_ble_eq_true rfl) (lv2 := [(2, .int 1), (0, .ref 89), (1, .int 0)]) rfl ?_
  refine a_goto 97 dX11_hypotheses_130 (by decide) ?_
  refine a_iload_n dX11_hypotheses_97 rfl rfl ?_
  refine a_bipush (v := 6) dX11_hypotheses_98 (by decide) ?_
  refine a_icmp_ge 133 dX11_hypotheses_100 (by decide) (fun c => absurd c (by decide)) (fun _ => ?_)
  refine a_aload_n dX11_hypotheses_103 rfl rfl ?_
  refine a_get (v := .ref 97) dX11_hypotheses_104 fl_11_35 (cm_l h32 (by decide)) (cm_s h32 (by decide) rfl) (cm_g h32 rfl (by decide +kernel)) ?_
  refine a_iload_n dX11_hypotheses_107 rfl rfl ?_
  refine a_aload_n dX11_hypotheses_108 rfl rfl ?_
  refine a_get (v := .ref 100) dX11_hypotheses_109 fl_11_44 (cm_l h32 (by decide)) (cm_s h32 (by decide) rfl) (cm_g h32 rfl (by decide +kernel)) ?_
  refine a_iload_n dX11_hypotheses_112 rfl rfl ?_
  refine a_iaload dX11_hypotheses_113 (cm_l h32 (by decide)) (cm_s h32 (by decide) rfl) (by unfold vp_in; decide +kernel) ?_
  rw [show M32.2.2.1 100 (Int32.toNatClampNeg 1) = 0 from (cm_i h32 (by decide)).trans (by first | decide +kernel | rfl)]
  refine a_iastore dX11_hypotheses_114 (cm_l h32 (by decide)) (cm_s h32 (by decide) rfl) (by unfold vp_in; decide +kernel) ?_
  rw [show Int32.toNatClampNeg 1 = 1 from by decide +kernel]
  have h33 : Cm (up2 (up2 (up2 (up2 (up2 (up2 (up2 (up2 (up2 (up2 (up2 (up2 (up2 (up2 (up2 (up2 (up2 (up2 (up2 (up2 (up2 (up2 (up2 (up2 (up2 (up2 (up2 (up2 (up2 (up2 (up2 (up2 (up2 (up2 (up2 (up2 (up2 fs42 89 0 0) 89 27 0) 89 28 0) 89 29 0) 89 30 0) 89 31 (-1)) 89 35 0) 89 32 0) 89 33 (-1)) 89 15 0) 96 0 0) 96 1 0) 96 2 0) 96 3 0) 96 4 0) 96 5 0) 96 6 0) 96 7 0) 96 8 0) 96 9 0) 96 10 0) 96 11 0) 96 12 0) 96 13 0) 96 14 0) 96 15 0) 96 16 0) 96 17 0) 96 18 0) 96 19 0) 96 20 0) 96 21 0) 96 22 0) 96 23 0) 97 0 0) 98 0 0) 97 1 0) (wI M32 97 1 0) := cm_I h32 (by decide)
  generalize (wI M32 97 1 0) = M33 at h33 ⊢
  refine a_aload_n dX11_hypotheses_115 rfl rfl ?_
  refine a_get (v := .ref 98) dX11_hypotheses_116 fl_11_38 (cm_l h33 (by decide)) (cm_s h33 (by decide) rfl) (cm_g h33 rfl (by decide +kernel)) ?_
  refine a_iload_n dX11_hypotheses_119 rfl rfl ?_
  refine a_aload_n dX11_hypotheses_120 rfl rfl ?_
  refine a_get (v := .ref 101) dX11_hypotheses_121 fl_11_47 (cm_l h33 (by decide)) (cm_s h33 (by decide) rfl) (cm_g h33 rfl (by decide +kernel)) ?_
  refine a_iload_n dX11_hypotheses_124 rfl rfl ?_
  refine a_iaload dX11_hypotheses_125 (cm_l h33 (by decide)) (cm_s h33 (by decide) rfl) (by unfold vp_in; decide +kernel) ?_
  rw [show M33.2.2.1 101 (Int32.toNatClampNeg 1) = 0 from (cm_i h33 (by decide)).trans (by first | decide +kernel | rfl)]
  refine a_iastore dX11_hypotheses_126 (cm_l h33 (by decide)) (cm_s h33 (by decide) rfl) (by unfold vp_in; decide +kernel) ?_
  rw [show Int32.toNatClampNeg 1 = 1 from by decide +kernel]
  have h34 : Cm (up2 (up2 (up2 (up2 (up2 (up2 (up2 (up2 (up2 (up2 (up2 (up2 (up2 (up2 (up2 (up2 (up2 (up2 (up2 (up2 (up2 (up2 (up2 (up2 (up2 (up2 (up2 (up2 (up2 (up2 (up2 (up2 (up2 (up2 (up2 (up2 (up2 (up2 fs42 89 0 0) 89 27 0) 89 28 0) 89 29 0) 89 30 0) 89 31 (-1)) 89 35 0) 89 32 0) 89 33 (-1)) 89 15 0) 96 0 0) 96 1 0) 96 2 0) 96 3 0) 96 4 0) 96 5 0) 96 6 0) 96 7 0) 96 8 0) 96 9 0) 96 10 0) 96 11 0) 96 12 0) 96 13 0) 96 14 0) 96 15 0) 96 16 0) 96 17 0) 96 18 0) 96 19 0) 96 20 0) 96 21 0) 96 22 0) 96 23 0) 97 0 0) 98 0 0) 97 1 0) 98 1 0) (wI M33 98 1 0) := cm_I h33 (by decide)
  generalize (wI M33 98 1 0) = M34 at h34 ⊢
  refine a_iinc (v := 2) dX11_hypotheses_127 rfl (by decide) (Nat.le_of_ble_eq_true rfl) (lv2 := [(2, .int 2), (0, .ref 89), (1, .int 0)]) rfl ?_
  refine a_goto 97 dX11_hypotheses_130 (by decide) ?_
  refine a_iload_n dX11_hypotheses_97 rfl rfl ?_
  refine a_bipush (v := 6) dX11_hypotheses_98 (by decide) ?_
  refine a_icmp_ge 133 dX11_hypotheses_100 (by decide) (fun c => absurd c (by decide)) (fun _ => ?_)
  refine a_aload_n dX11_hypotheses_103 rfl rfl ?_
  refine a_get (v := .ref 97) dX11_hypotheses_104 fl_11_35 (cm_l h34 (by decide)) (cm_s h34 (by decide) rfl) (cm_g h34 rfl (by decide +kernel)) ?_
  refine a_iload_n dX11_hypotheses_107 rfl rfl ?_
  refine a_aload_n dX11_hypotheses_108 rfl rfl ?_
  refine a_get (v := .ref 100) dX11_hypotheses_109 fl_11_44 (cm_l h34 (by decide)) (cm_s h34 (by decide) rfl) (cm_g h34 rfl (by decide +kernel)) ?_
  refine a_iload_n dX11_hypotheses_112 rfl rfl ?_
  refine a_iaload dX11_hypotheses_113 (cm_l h34 (by decide)) (cm_s h34 (by decide) rfl) (by unfold vp_in; decide +kernel) ?_
  rw [show M34.2.2.1 100 (Int32.toNatClampNeg 2) = 0 from (cm_i h34 (by decide)).trans (by first | decide +kernel | rfl)]
  refine a_iastore dX11_hypotheses_114 (cm_l h34 (by decide)) (cm_s h34 (by decide) rfl) (by unfold vp_in; decide +kernel) ?_
  rw [show Int32.toNatClampNeg 2 = 2 from by decide +kernel]
  have h35 : Cm (up2 (up2 (up2 (up2 (up2 (up2 (up2 (up2 (up2 (up2 (up2 (up2 (up2 (up2 (up2 (up2 (up2 (up2 (up2 (up2 (up2 (up2 (up2 (up2 (up2 (up2 (up2 (up2 (up2 (up2 (up2 (up2 (up2 (up2 (up2 (up2 (up2 (up2 (up2 fs42 89 0 0) 89 27 0) 89 28 0) 89 29 0) 89 30 0) 89 31 (-1)) 89 35 0) 89 32 0) 89 33 (-1)) 89 15 0) 96 0 0) 96 1 0) 96 2 0) 96 3 0) 96 4 0) 96 5 0) 96 6 0) 96 7 0) 96 8 0) 96 9 0) 96 10 0) 96 11 0) 96 12 0) 96 13 0) 96 14 0) 96 15 0) 96 16 0) 96 17 0) 96 18 0) 96 19 0) 96 20 0) 96 21 0) 96 22 0) 96 23 0) 97 0 0) 98 0 0) 97 1 0) 98 1 0) 97 2 0) (wI M34 97 2 0) := cm_I h34 (by decide)
  generalize (wI M34 97 2 0) = M35 at h35 ⊢
  refine a_aload_n dX11_hypotheses_115 rfl rfl ?_
  refine a_get (v := .ref 98) dX11_hypotheses_116 fl_11_38 (cm_l h35 (by decide)) (cm_s h35 (by decide) rfl) (cm_g h35 rfl (by decide +kernel)) ?_
  refine a_iload_n dX11_hypotheses_119 rfl rfl ?_
  refine a_aload_n dX11_hypotheses_120 rfl rfl ?_
  refine a_get (v := .ref 101) dX11_hypotheses_121 fl_11_47 (cm_l h35 (by decide)) (cm_s h35 (by decide) rfl) (cm_g h35 rfl (by decide +kernel)) ?_
  refine a_iload_n dX11_hypotheses_124 rfl rfl ?_
  refine a_iaload dX11_hypotheses_125 (cm_l h35 (by decide)) (cm_s h35 (by decide) rfl) (by unfold vp_in; decide +kernel) ?_
  rw [show M35.2.2.1 101 (Int32.toNatClampNeg 2) = 0 from (cm_i h35 (by decide)).trans (by first | decide +kernel | rfl)]
  refine a_iastore dX11_hypotheses_126 (cm_l h35 (by decide)) (cm_s h35 (by decide) rfl) (by unfold vp_in; decide +kernel) ?_
  rw [show Int32.toNatClampNeg 2 = 2 from by decide +kernel]
  have h36 : Cm (up2 (up2 (up2 (up2 (up2 (up2 (up2 (up2 (up2 (up2 (up2 (up2 (up2 (up2 (up2 (up2 (up2 (up2 (up2 (up2 (up2 (up2 (up2 (up2 (up2 (up2 (up2 (up2 (up2 (up2 (up2 (up2 (up2 (up2 (up2 (up2 (up2 (up2 (up2 (up2 fs42 89 0 0) 89 27 0) 89 28 0) 89 29 0) 89 30 0) 89 31 (-1)) 89 35 0) 89 32 0) 89 33 (-1)) 89 15 0) 96 0 0) 96 1 0) 96 2 0) 96 3 0) 96 4 0) 96 5 0) 96 6 0) 96 7 0) 96 8 0) 96 9 0) 96 10 0) 96 11 0) 96 12 0) 96 13 0) 96 14 0) 96 15 0) 96 16 0) 96 17 0) 96 18 0) 96 19 0) 96 20 0) 96 21 0) 96 22 0) 96 23 0) 97 0 0) 98 0 0) 97 1 0) 98 1 0) 97 2 0) 98 2 0) (wI M35 98 2 0) := cm_I h35 (by decide)
  generalize (wI M35 98 2 0) = M36 at h36 ⊢
  refine a_iinc (v := 3) dX11_hypotheses_127 rfl (by decide) (Nat.le_of_ble_eq_true rfl) (lv2 := [(2, .int 3), (0, .ref 89), (1, .int 0)]) rfl ?_
  refine a_goto 97 dX11_hypotheses_130 (by decide) ?_
  refine a_iload_n dX11_hypotheses_97 rfl rfl ?_
  refine a_bipush (v := 6) dX11_hypotheses_98 (by decide) ?_
  refine a_icmp_ge 133 dX11_hypotheses_100 (by decide) (fun c => absurd c (by decide)) (fun _ => ?_)
  refine a_aload_n dX11_hypotheses_103 rfl rfl ?_
  refine a_get (v := .ref 97) dX11_hypotheses_104 fl_11_35 (cm_l h36 (by decide)) (cm_s h36 (by decide) rfl) (cm_g h36 rfl (by decide +kernel)) ?_
  refine a_iload_n dX11_hypotheses_107 rfl rfl ?_
  refine a_aload_n dX11_hypotheses_108 rfl rfl ?_
  refine a_get (v := .ref 100) dX11_hypotheses_109 fl_11_44 (cm_l h36 (by decide)) (cm_s h36 (by decide) rfl) (cm_g h36 rfl (by decide +kernel)) ?_
  refine a_iload_n dX11_hypotheses_112 rfl rfl ?_
  refine a_iaload dX11_hypotheses_113 (cm_l h36 (by decide)) (cm_s h36 (by decide) rfl) (by unfold vp_in; decide +kernel) ?_
  rw [show M36.2.2.1 100 (Int32.toNatClampNeg 3) = 0 from (cm_i h36 (by decide)).trans (by first | decide +kernel | rfl)]
  refine a_iastore dX11_hypotheses_114 (cm_l h36 (by decide)) (cm_s h36 (by decide) rfl) (by unfold vp_in; decide +kernel) ?_
  rw [show Int32.toNatClampNeg 3 = 3 from by decide +kernel]
  have h37 : Cm (up2 (up2 (up2 (up2 (up2 (up2 (up2 (up2 (up2 (up2 (up2 (up2 (up2 (up2 (up2 (up2 (up2 (up2 (up2 (up2 (up2 (up2 (up2 (up2 (up2 (up2 (up2 (up2 (up2 (up2 (up2 (up2 (up2 (up2 (up2 (up2 (up2 (up2 (up2 (up2 (up2 fs42 89 0 0) 89 27 0) 89 28 0) 89 29 0) 89 30 0) 89 31 (-1)) 89 35 0) 89 32 0) 89 33 (-1)) 89 15 0) 96 0 0) 96 1 0) 96 2 0) 96 3 0) 96 4 0) 96 5 0) 96 6 0) 96 7 0) 96 8 0) 96 9 0) 96 10 0) 96 11 0) 96 12 0) 96 13 0) 96 14 0) 96 15 0) 96 16 0) 96 17 0) 96 18 0) 96 19 0) 96 20 0) 96 21 0) 96 22 0) 96 23 0) 97 0 0) 98 0 0) 97 1 0) 98 1 0) 97 2 0) 98 2 0) 97 3 0) (wI M36 97 3 0) := cm_I h36 (by decide)
  generalize (wI M36 97 3 0) = M37 at h37 ⊢
  refine a_aload_n dX11_hypotheses_115 rfl rfl ?_
  refine a_get (v := .ref 98) dX11_hypotheses_116 fl_11_38 (cm_l h37 (by decide)) (cm_s h37 (by decide) rfl) (cm_g h37 rfl (by decide +kernel)) ?_
  refine a_iload_n dX11_hypotheses_119 rfl rfl ?_
  refine a_aload_n dX11_hypotheses_120 rfl rfl ?_
  refine a_get (v := .ref 101) dX11_hypotheses_121 fl_11_47 (cm_l h37 (by decide)) (cm_s h37 (by decide) rfl) (cm_g h37 rfl (by decide +kernel)) ?_
  refine a_iload_n dX11_hypotheses_124 rfl rfl ?_
  refine a_iaload dX11_hypotheses_125 (cm_l h37 (by decide)) (cm_s h37 (by decide) rfl) (by unfold vp_in; decide +kernel) ?_
  rw [show M37.2.2.1 101 (Int32.toNatClampNeg 3) = 0 from (cm_i h37 (by decide)).trans (by first | decide +kernel | rfl)]
  refine a_iastore dX11_hypotheses_126 (cm_l h37 (by decide)) (cm_s h37 (by decide) rfl) (by unfold vp_in; decide +kernel) ?_
  rw [show Int32.toNatClampNeg 3 = 3 from by decide +kernel]
  have h38 : Cm (up2 (up2 (up2 (up2 (up2 (up2 (up2 (up2 (up2 (up2 (up2 (up2 (up2 (up2 (up2 (up2 (up2 (up2 (up2 (up2 (up2 (up2 (up2 (up2 (up2 (up2 (up2 (up2 (up2 (up2 (up2 (up2 (up2 (up2 (up2 (up2 (up2 (up2 (up2 (up2 (up2 (up2 fs42 89 0 0) 89 27 0) 89 28 0) 89 29 0) 89 30 0) 89 31 (-1)) 89 35 0) 89 32 0) 89 33 (-1)) 89 15 0) 96 0 0) 96 1 0) 96 2 0) 96 3 0) 96 4 0) 96 5 0) 96 6 0) 96 7 0) 96 8 0) 96 9 0) 96 10 0) 96 11 0) 96 12 0) 96 13 0) 96 14 0) 96 15 0) 96 16 0) 96 17 0) 96 18 0) 96 19 0) 96 20 0) 96 21 0) 96 22 0) 96 23 0) 97 0 0) 98 0 0) 97 1 0) 98 1 0) 97 2 0) 98 2 0) 97 3 0) 98 3 0) (wI M37 98 3 0) := cm_I h37 (by decide)
  generalize (wI M37 98 3 0) = M38 at h38 ⊢
  refine a_iinc (v := 4) dX11_hypotheses_127 rfl (by decide) (Nat.le_of_ble_eq_true rfl) (lv2 := [(2, .int 4), (0, .ref 89), (1, .int 0)]) rfl ?_
  refine a_goto 97 dX11_hypotheses_130 (by decide) ?_
  refine a_iload_n dX11_hypotheses_97 rfl rfl ?_
  refine a_bipush (v := 6) dX11_hypotheses_98 (by decide) ?_
  refine a_icmp_ge 133 dX11_hypotheses_100 (by decide) (fun c => absurd c (by decide)) (fun _ => ?_)
  refine a_aload_n dX11_hypotheses_103 rfl rfl ?_
  refine a_get (v := .ref 97) dX11_hypotheses_104 fl_11_35 (cm_l h38 (by decide)) (cm_s h38 (by decide) rfl) (cm_g h38 rfl (by decide +kernel)) ?_
  refine a_iload_n dX11_hypotheses_107 rfl rfl ?_
  refine a_aload_n dX11_hypotheses_108 rfl rfl ?_
  refine a_get (v := .ref 100) dX11_hypotheses_109 fl_11_44 (cm_l h38 (by decide)) (cm_s h38 (by decide) rfl) (cm_g h38 rfl (by decide +kernel)) ?_
  refine a_iload_n dX11_hypotheses_112 rfl rfl ?_
  refine a_iaload dX11_hypotheses_113 (cm_l h38 (by decide)) (cm_s h38 (by decide) rfl) (by unfold vp_in; decide +kernel) ?_
  rw [show M38.2.2.1 100 (Int32.toNatClampNeg 4) = 0 from (cm_i h38 (by decide)).trans (by first | decide +kernel | rfl)]
  refine a_iastore dX11_hypotheses_114 (cm_l h38 (by decide)) (cm_s h38 (by decide) rfl) (by unfold vp_in; decide +kernel) ?_
  rw [show Int32.toNatClampNeg 4 = 4 from by decide +kernel]
  have h39 : Cm (up2 (up2 (up2 (up2 (up2 (up2 (up2 (up2 (up2 (up2 (up2 (up2 (up2 (up2 (up2 (up2 (up2 (up2 (up2 (up2 (up2 (up2 (up2 (up2 (up2 (up2 (up2 (up2 (up2 (up2 (up2 (up2 (up2 (up2 (up2 (up2 (up2 (up2 (up2 (up2 (up2 (up2 (up2 fs42 89 0 0) 89 27 0) 89 28 0) 89 29 0) 89 30 0) 89 31 (-1)) 89 35 0) 89 32 0) 89 33 (-1)) 89 15 0) 96 0 0) 96 1 0) 96 2 0) 96 3 0) 96 4 0) 96 5 0) 96 6 0) 96 7 0) 96 8 0) 96 9 0) 96 10 0) 96 11 0) 96 12 0) 96 13 0) 96 14 0) 96 15 0) 96 16 0) 96 17 0) 96 18 0) 96 19 0) 96 20 0) 96 21 0) 96 22 0) 96 23 0) 97 0 0) 98 0 0) 97 1 0) 98 1 0) 97 2 0) 98 2 0) 97 3 0) 98 3 0) 97 4 0) (wI M38 97 4 0) := cm_I h38 (by decide)
  generalize (wI M38 97 4 0) = M39 at h39 ⊢
  refine a_aload_n dX11_hypotheses_115 rfl rfl ?_
  refine a_get (v := .ref 98) dX11_hypotheses_116 fl_11_38 (cm_l h39 (by decide)) (cm_s h39 (by decide) rfl) (cm_g h39 rfl (by decide +kernel)) ?_
  refine a_iload_n dX11_hypotheses_119 rfl rfl ?_
  refine a_aload_n dX11_hypotheses_120 rfl rfl ?_
  refine a_get (v := .ref 101) dX11_hypotheses_121 fl_11_47 (cm_l h39 (by decide)) (cm_s h39 (by decide) rfl) (cm_g h39 rfl (by decide +kernel)) ?_
  refine a_iload_n dX11_hypotheses_124 rfl rfl ?_
  refine a_iaload dX11_hypotheses_125 (cm_l h39 (by decide)) (cm_s h39 (by decide) rfl) (by unfold vp_in; decide +kernel) ?_
  rw [show M39.2.2.1 101 (Int32.toNatClampNeg 4) = 0 from (cm_i h39 (by decide)).trans (by first | decide +kernel | rfl)]
  refine a_iastore dX11_hypotheses_126 (cm_l h39 (by decide)) (cm_s h39 (by decide) rfl) (by unfold vp_in; decide +kernel) ?_
  rw [show Int32.toNatClampNeg 4 = 4 from by decide +kernel]
  have h40 : Cm (up2 (up2 (up2 (up2 (up2 (up2 (up2 (up2 (up2 (up2 (up2 (up2 (up2 (up2 (up2 (up2 (up2 (up2 (up2 (up2 (up2 (up2 (up2 (up2 (up2 (up2 (up2 (up2 (up2 (up2 (up2 (up2 (up2 (up2 (up2 (up2 (up2 (up2 (up2 (up2 (up2 (up2 (up2 (up2 fs42 89 0 0) 89 27 0) 89 28 0) 89 29 0) 89 30 0) 89 31 (-1)) 89 35 0) 89 32 0) 89 33 (-1)) 89 15 0) 96 0 0) 96 1 0) 96 2 0) 96 3 0) 96 4 0) 96 5 0) 96 6 0) 96 7 0) 96 8 0) 96 9 0) 96 10 0) 96 11 0) 96 12 0) 96 13 0) 96 14 0) 96 15 0) 96 16 0) 96 17 0) 96 18 0) 96 19 0) 96 20 0) 96 21 0) 96 22 0) 96 23 0) 97 0 0) 98 0 0) 97 1 0) 98 1 0) 97 2 0) 98 2 0) 97 3 0) 98 3 0) 97 4 0) 98 4 0) (wI M39 98 4 0) := cm_I h39 (by decide)
  generalize (wI M39 98 4 0) = M40 at h40 ⊢
  refine a_iinc (v := 5) dX11_hypotheses_127 rfl (by decide) (Nat.le_of_ble_eq_true rfl) (lv2 := [(2, .int 5), (0, .ref 89), (1, .int 0)]) rfl ?_
  refine a_goto 97 dX11_hypotheses_130 (by decide) ?_
  refine a_iload_n dX11_hypotheses_97 rfl rfl ?_
  refine a_bipush (v := 6) dX11_hypotheses_98 (by decide) ?_
  refine a_icmp_ge 133 dX11_hypotheses_100 (by decide) (fun c => absurd c (by decide)) (fun _ => ?_)
  refine a_aload_n dX11_hypotheses_103 rfl rfl ?_
  refine a_get (v := .ref 97) dX11_hypotheses_104 fl_11_35 (cm_l h40 (by decide)) (cm_s h40 (by decide) rfl) (cm_g h40 rfl (by decide +kernel)) ?_
  refine a_iload_n dX11_hypotheses_107 rfl rfl ?_
  refine a_aload_n dX11_hypotheses_108 rfl rfl ?_
  refine a_get (v := .ref 100) dX11_hypotheses_109 fl_11_44 (cm_l h40 (by decide)) (cm_s h40 (by decide) rfl) (cm_g h40 rfl (by decide +kernel)) ?_
  refine a_iload_n dX11_hypotheses_112 rfl rfl ?_
  refine a_iaload dX11_hypotheses_113 (cm_l h40 (by decide)) (cm_s h40 (by decide) rfl) (by unfold vp_in; decide +kernel) ?_
  rw [show M40.2.2.1 100 (Int32.toNatClampNeg 5) = 0 from (cm_i h40 (by decide)).trans (by first | decide +kernel | rfl)]
  refine a_iastore dX11_hypotheses_114 (cm_l h40 (by decide)) (cm_s h40 (by decide) rfl) (by unfold vp_in; decide +kernel) ?_
  rw [show Int32.toNatClampNeg 5 = 5 from by decide +kernel]
  have h41 : Cm (up2 (up2 (up2 (up2 (up2 (up2 (up2 (up2 (up2 (up2 (up2 (up2 (up2 (up2 (up2 (up2 (up2 (up2 (up2 (up2 (up2 (up2 (up2 (up2 (up2 (up2 (up2 (up2 (up2 (up2 (up2 (up2 (up2 (up2 (up2 (up2 (up2 (up2 (up2 (up2 (up2 (up2 (up2 (up2 (up2 fs42 89 0 0) 89 27 0) 89 28 0) 89 29 0) 89 30 0) 89 31 (-1)) 89 35 0) 89 32 0) 89 33 (-1)) 89 15 0) 96 0 0) 96 1 0) 96 2 0) 96 3 0) 96 4 0) 96 5 0) 96 6 0) 96 7 0) 96 8 0) 96 9 0) 96 10 0) 96 11 0) 96 12 0) 96 13 0) 96 14 0) 96 15 0) 96 16 0) 96 17 0) 96 18 0) 96 19 0) 96 20 0) 96 21 0) 96 22 0) 96 23 0) 97 0 0) 98 0 0) 97 1 0) 98 1 0) 97 2 0) 98 2 0) 97 3 0) 98 3 0) 97 4 0) 98 4 0) 97 5 0) (wI M40 97 5 0) := cm_I h40 (by decide)
  generalize (wI M40 97 5 0) = M41 at h41 ⊢
  refine a_aload_n dX11_hypotheses_115 rfl rfl ?_
  refine a_get (v := .ref 98) dX11_hypotheses_116 fl_11_38 (cm_l h41 (by decide)) (cm_s h41 (by decide) rfl) (cm_g h41 rfl (by decide +kernel)) ?_
  refine a_iload_n dX11_hypotheses_119 rfl rfl ?_
  refine a_aload_n dX11_hypotheses_120 rfl rfl ?_
  refine a_get (v := .ref 101) dX11_hypotheses_121 fl_11_47 (cm_l h41 (by decide)) (cm_s h41 (by decide) rfl) (cm_g h41 rfl (by decide +kernel)) ?_
  refine a_iload_n dX11_hypotheses_124 rfl rfl ?_
  refine a_iaload dX11_hypotheses_125 (cm_l h41 (by decide)) (cm_s h41 (by decide) rfl) (by unfold vp_in; decide +kernel) ?_
  rw [show M41.2.2.1 101 (Int32.toNatClampNeg 5) = 0 from (cm_i h41 (by decide)).trans (by first | decide +kernel | rfl)]
  refine a_iastore dX11_hypotheses_126 (cm_l h41 (by decide)) (cm_s h41 (by decide) rfl) (by unfold vp_in; decide +kernel) ?_
  rw [show Int32.toNatClampNeg 5 = 5 from by decide +kernel]
  have h42 : Cm (up2 (up2 (up2 (up2 (up2 (up2 (up2 (up2 (up2 (up2 (up2 (up2 (up2 (up2 (up2 (up2 (up2 (up2 (up2 (up2 (up2 (up2 (up2 (up2 (up2 (up2 (up2 (up2 (up2 (up2 (up2 (up2 (up2 (up2 (up2 (up2 (up2 (up2 (up2 (up2 (up2 (up2 (up2 (up2 (up2 (up2 fs42 89 0 0) 89 27 0) 89 28 0) 89 29 0) 89 30 0) 89 31 (-1)) 89 35 0) 89 32 0) 89 33 (-1)) 89 15 0) 96 0 0) 96 1 0) 96 2 0) 96 3 0) 96 4 0) 96 5 0) 96 6 0) 96 7 0) 96 8 0) 96 9 0) 96 10 0) 96 11 0) 96 12 0) 96 13 0) 96 14 0) 96 15 0) 96 16 0) 96 17 0) 96 18 0) 96 19 0) 96 20 0) 96 21 0) 96 22 0) 96 23 0) 97 0 0) 98 0 0) 97 1 0) 98 1 0) 97 2 0) 98 2 0) 97 3 0) 98 3 0) 97 4 0) 98 4 0) 97 5 0) 98 5 0) (wI M41 98 5 0) := cm_I h41 (by decide)
  generalize (wI M41 98 5 0) = M42 at h42 ⊢
  refine a_iinc (v := 6) dX11_hypotheses_127 rfl (by decide) (Nat.le_of_ble_eq_true rfl) (lv2 := [(2, .int 6), (0, .ref 89), (1, .int 0)]) rfl ?_
  refine a_goto 97 dX11_hypotheses_130 (by decide) ?_
  refine a_iload_n dX11_hypotheses_97 rfl rfl ?_
  refine a_bipush (v := 6) dX11_hypotheses_98 (by decide) ?_
  refine a_icmp_ge 133 dX11_hypotheses_100 (by decide) (fun _ => ?_) (fun c => absurd (by decide) c)
  refine a_iconst (v := 0) dX11_hypotheses_133 (by decide) ?_
  refine a_istore_n dX11_hypotheses_134 rfl (Nat.le_of_ble_eq_true rfl) (lv2 := [(2, .int 0), (0, .ref 89), (1, .int 0)]) rfl ?_
  refine a_iload_n dX11_hypotheses_135 rfl rfl ?_
  refine a_iconst (v := 4) dX11_hypotheses_136 (by decide) ?_
  refine a_icmp_ge 153 dX11_hypotheses_137 (by decide) (fun c => absurd c (by decide)) (fun _ => ?_)
  refine a_aload_n dX11_hypotheses_140 rfl rfl ?_
  refine a_get (v := .ref 104) dX11_hypotheses_141 fl_11_56 (cm_l h42 (by decide)) (cm_s h42 (by decide) rfl) (cm_g h42 rfl (by decide +kernel)) ?_
  refine a_iload_n dX11_hypotheses_144 rfl rfl ?_
  refine a_iconst (v := 0) dX11_hypotheses_145 (by decide) ?_
  refine a_iastore dX11_hypotheses_146 (cm_l h42 (by decide)) (cm_s h42 (by decide) rfl) (by unfold vp_in; decide +kernel) ?_
  rw [show Int32.toNatClampNeg 0 = 0 from by decide +kernel]
  have h43 : Cm (up2 (up2 (up2 (up2 (up2 (up2 (up2 (up2 (up2 (up2 (up2 (up2 (up2 (up2 (up2 (up2 (up2 (up2 (up2 (up2 (up2 (up2 (up2 (up2 (up2 (up2 (up2 (up2 (up2 (up2 (up2 (up2 (up2 (up2 (up2 (up2 (up2 (up2 (up2 (up2 (up2 (up2 (up2 (up2 (up2 (up2 (up2 fs42 89 0 0) 89 27 0) 89 28 0) 89 29 0) 89 30 0) 89 31 (-1)) 89 35 0) 89 32 0) 89 33 (-1)) 89 15 0) 96 0 0) 96 1 0) 96 2 0) 96 3 0) 96 4 0) 96 5 0) 96 6 0) 96 7 0) 96 8 0) 96 9 0) 96 10 0) 96 11 0) 96 12 0) 96 13 0) 96 14 0) 96 15 0) 96 16 0) 96 17 0) 96 18 0) 96 19 0) 96 20 0) 96 21 0) 96 22 0) 96 23 0) 97 0 0) 98 0 0) 97 1 0) 98 1 0) 97 2 0) 98 2 0) 97 3 0) 98 3 0) 97 4 0) 98 4 0) 97 5 0) 98 5 0) 104 0 0) (wI M42 104 0 0) := cm_I h42 (by decide)
  generalize (wI M42 104 0 0) = M43 at h43 ⊢
  refine a_iinc (v := 1) dX11_hypotheses_147 rfl (by decide) (Nat.le_of_ble_eq_true rfl) (lv2 := [(2, .int 1), (0, .ref 89), (1, .int 0)]) rfl ?_
  refine a_goto 135 dX11_hypotheses_150 (by decide) ?_
  refine a_iload_n dX11_hypotheses_135 rfl rfl ?_
  refine a_iconst (v := 4) dX11_hypotheses_136 (by decide) ?_
  refine a_icmp_ge 153 dX11_hypotheses_137 (by decide) (fun c => absurd c (by decide)) (fun _ => ?_)
  refine a_aload_n dX11_hypotheses_140 rfl rfl ?_
  refine a_get (v := .ref 104) dX11_hypotheses_141 fl_11_56 (cm_l h43 (by decide)) (cm_s h43 (by decide) rfl) (cm_g h43 rfl (by decide +kernel)) ?_
  refine a_iload_n dX11_hypotheses_144 rfl rfl ?_
  refine a_iconst (v := 0) dX11_hypotheses_145 (by decide) ?_
  refine a_iastore dX11_hypotheses_146 (cm_l h43 (by decide)) (cm_s h43 (by decide) rfl) (by unfold vp_in; decide +kernel) ?_
  rw [show Int32.toNatClampNeg 1 = 1 from by decide +kernel]
  have h44 : Cm (up2 (up2 (up2 (up2 (up2 (up2 (up2 (up2 (up2 (up2 (up2 (up2 (up2 (up2 (up2 (up2 (up2 (up2 (up2 (up2 (up2 (up2 (up2 (up2 (up2 (up2 (up2 (up2 (up2 (up2 (up2 (up2 (up2 (up2 (up2 (up2 (up2 (up2 (up2 (up2 (up2 (up2 (up2 (up2 (up2 (up2 (up2 (up2 fs42 89 0 0) 89 27 0) 89 28 0) 89 29 0) 89 30 0) 89 31 (-1)) 89 35 0) 89 32 0) 89 33 (-1)) 89 15 0) 96 0 0) 96 1 0) 96 2 0) 96 3 0) 96 4 0) 96 5 0) 96 6 0) 96 7 0) 96 8 0) 96 9 0) 96 10 0) 96 11 0) 96 12 0) 96 13 0) 96 14 0) 96 15 0) 96 16 0) 96 17 0) 96 18 0) 96 19 0) 96 20 0) 96 21 0) 96 22 0) 96 23 0) 97 0 0) 98 0 0) 97 1 0) 98 1 0) 97 2 0) 98 2 0) 97 3 0) 98 3 0) 97 4 0) 98 4 0) 97 5 0) 98 5 0) 104 0 0) 104 1 0) (wI M43 104 1 0) := cm_I h43 (by decide)
  generalize (wI M43 104 1 0) = M44 at h44 ⊢
  refine a_iinc (v := 2) dX11_hypotheses_147 rfl (by decide) (Nat.le_of_ble_eq_true rfl) (lv2 := [(2, .int 2), (0, .ref 89), (1, .int 0)]) rfl ?_
  refine a_goto 135 dX11_hypotheses_150 (by decide) ?_
  refine a_iload_n dX11_hypotheses_135 rfl rfl ?_
  refine a_iconst (v := 4) dX11_hypotheses_136 (by decide) ?_
  refine a_icmp_ge 153 dX11_hypotheses_137 (by decide) (fun c => absurd c (by decide)) (fun _ => ?_)
  refine a_aload_n dX11_hypotheses_140 rfl rfl ?_
  refine a_get (v := .ref 104) dX11_hypotheses_141 fl_11_56 (cm_l h44 (by decide)) (cm_s h44 (by decide) rfl) (cm_g h44 rfl (by decide +kernel)) ?_
  refine a_iload_n dX11_hypotheses_144 rfl rfl ?_
  refine a_iconst (v := 0) dX11_hypotheses_145 (by decide) ?_
  refine a_iastore dX11_hypotheses_146 (cm_l h44 (by decide)) (cm_s h44 (by decide) rfl) (by unfold vp_in; decide +kernel) ?_
  rw [show Int32.toNatClampNeg 2 = 2 from by decide +kernel]
  have h45 : Cm (up2 (up2 (up2 (up2 (up2 (up2 (up2 (up2 (up2 (up2 (up2 (up2 (up2 (up2 (up2 (up2 (up2 (up2 (up2 (up2 (up2 (up2 (up2 (up2 (up2 (up2 (up2 (up2 (up2 (up2 (up2 (up2 (up2 (up2 (up2 (up2 (up2 (up2 (up2 (up2 (up2 (up2 (up2 (up2 (up2 (up2 (up2 (up2 (up2 fs42 89 0 0) 89 27 0) 89 28 0) 89 29 0) 89 30 0) 89 31 (-1)) 89 35 0) 89 32 0) 89 33 (-1)) 89 15 0) 96 0 0) 96 1 0) 96 2 0) 96 3 0) 96 4 0) 96 5 0) 96 6 0) 96 7 0) 96 8 0) 96 9 0) 96 10 0) 96 11 0) 96 12 0) 96 13 0) 96 14 0) 96 15 0) 96 16 0) 96 17 0) 96 18 0) 96 19 0) 96 20 0) 96 21 0) 96 22 0) 96 23 0) 97 0 0) 98 0 0) 97 1 0) 98 1 0) 97 2 0) 98 2 0) 97 3 0) 98 3 0) 97 4 0) 98 4 0) 97 5 0) 98 5 0) 104 0 0) 104 1 0) 104 2 0) (wI M44 104 2 0) := cm_I h44 (by decide)
  generalize (wI M44 104 2 0) = M45 at h45 ⊢
  refine a_iinc (v := 3) dX11_hypotheses_147 rfl (by decide) (Nat.le_of_ble_eq_true rfl) (lv2 := [(2, .int 3), (0, .ref 89), (1, .int 0)]) rfl ?_
  refine a_goto 135 dX11_hypotheses_150 (by decide) ?_
  refine a_iload_n dX11_hypotheses_135 rfl rfl ?_
  refine a_iconst (v := 4) dX11_hypotheses_136 (by decide) ?_
  refine a_icmp_ge 153 dX11_hypotheses_137 (by decide) (fun c => absurd c (by decide)) (fun _ => ?_)
  refine a_aload_n dX11_hypotheses_140 rfl rfl ?_
  refine a_get (v := .ref 104) dX11_hypotheses_141 fl_11_56 (cm_l h45 (by decide)) (cm_s h45 (by decide) rfl) (cm_g h45 rfl (by decide +kernel)) ?_
  refine a_iload_n dX11_hypotheses_144 rfl rfl ?_
  refine a_iconst (v := 0) dX11_hypotheses_145 (by decide) ?_
  refine a_iastore dX11_hypotheses_146 (cm_l h45 (by decide)) (cm_s h45 (by decide) rfl) (by unfold vp_in; decide +kernel) ?_
  rw [show Int32.toNatClampNeg 3 = 3 from by decide +kernel]
  have h46 : Cm (up2 (up2 (up2 (up2 (up2 (up2 (up2 (up2 (up2 (up2 (up2 (up2 (up2 (up2 (up2 (up2 (up2 (up2 (up2 (up2 (up2 (up2 (up2 (up2 (up2 (up2 (up2 (up2 (up2 (up2 (up2 (up2 (up2 (up2 (up2 (up2 (up2 (up2 (up2 (up2 (up2 (up2 (up2 (up2 (up2 (up2 (up2 (up2 (up2 (up2 fs42 89 0 0) 89 27 0) 89 28 0) 89 29 0) 89 30 0) 89 31 (-1)) 89 35 0) 89 32 0) 89 33 (-1)) 89 15 0) 96 0 0) 96 1 0) 96 2 0) 96 3 0) 96 4 0) 96 5 0) 96 6 0) 96 7 0) 96 8 0) 96 9 0) 96 10 0) 96 11 0) 96 12 0) 96 13 0) 96 14 0) 96 15 0) 96 16 0) 96 17 0) 96 18 0) 96 19 0) 96 20 0) 96 21 0) 96 22 0) 96 23 0) 97 0 0) 98 0 0) 97 1 0) 98 1 0) 97 2 0) 98 2 0) 97 3 0) 98 3 0) 97 4 0) 98 4 0) 97 5 0) 98 5 0) 104 0 0) 104 1 0) 104 2 0) 104 3 0) (wI M45 104 3 0) := cm_I h45 (by decide)
  generalize (wI M45 104 3 0) = M46 at h46 ⊢
  refine a_iinc (v := 4) dX11_hypotheses_147 rfl (by decide) (Nat.le_of_ble_eq_true rfl) (lv2 := [(2, .int 4), (0, .ref 89), (1, .int 0)]) rfl ?_
  refine a_goto 135 dX11_hypotheses_150 (by decide) ?_
  refine a_iload_n dX11_hypotheses_135 rfl rfl ?_
  refine a_iconst (v := 4) dX11_hypotheses_136 (by decide) ?_
  refine a_icmp_ge 153 dX11_hypotheses_137 (by decide) (fun _ => ?_) (fun c => absurd (by decide) c)
  refine a_aload_n dX11_hypotheses_153 rfl rfl ?_
  refine a_get (v := .int 0) dX11_hypotheses_154 fl_11_144 (cm_l h46 (by decide)) (cm_s h46 (by decide) rfl) (cm_gi h46 rfl (by decide) (by first | decide +kernel | rfl)) ?_
  exact a_iret dX11_hypotheses_157 rfl ⟨by first | rfl | decide +kernel | simp [*], trivial⟩
