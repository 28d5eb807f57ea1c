set_option maxHeartbeats 4000000 in
set_option maxRecDepth 100000 in
theorem b_X1_init_2_3 {X : Nat × (Nat → Int32)} {fr : Nat} {M : Mem} (h0 : Cw 3 Lj1 fs0 gs0 M) : AM yX1_init cX1_init 2 none true (fr + 5) 7 32224 X [.ref 2] M (fun v M1 => v = none ∧ Cw 10 Lj8 fs29 gs9 M1) := by
  refine AM.of true (by decide +kernel) (by first | (intro _; rfl) | (intro h; cases h)) (Nat.le_of_ble_eq_true rfl) ?_
  show AW X (RX1, cX1_init, 2, none, true, true, fr + 5) 7 32224 0 [(0, .ref 2)] [] M _
  refine a_aload_n dX1_init_0 rfl rfl ?_
  refine a_objInit dX1_init_1 oi_X1 oi_i oi_c (Nat.le_add_left 1 (fr + 4)) (Nat.le_of_ble_eq_true rfl) ?_
  refine a_aload_n dX1_init_4 rfl rfl ?_
  refine a_sipush (v := 5200) dX1_init_5 (by decide) ?_
  refine a_newarray (t := 1) (n := 5200) (at_ := .int) (ty := .int) (bc := 6) (bs := 27024) (Or.inr (Or.inl ⟨rfl, rfl, rfl⟩)) dX1_init_8 rfl ay_int (by decide) (by decide) (by decide) (by rw [h0.1]; decide) (by rw [h0.1]; decide) ?_
  rw [h0.1]
  have h1 : Cw 4 Lj1 fs0 gs0 (nA M 1 5200) := cw_nA h0 rfl
  generalize (nA M 1 5200) = M1 at h1 ⊢
  refine a_putR dX1_init_10 (Or.inl ⟨fl_1_11, Or.inr ⟨rfl, rfl, rfl⟩⟩) rfl (cw_l h1 (by decide)) (cw_s h1 (by decide) rfl) ?_
  have h2 : Cw 4 Lj2 fs0 gs0 (wR M1 2 0 (some 3)) := cw_R h1 (by decide) (by decide +kernel)
  generalize (wR M1 2 0 (some 3)) = M2 at h2 ⊢
  refine a_aload_n dX1_init_13 rfl rfl ?_
  refine a_sipush (v := 5200) dX1_init_14 (by decide) ?_
  refine a_newarray (t := 1) (n := 5200) (at_ := .int) (ty := .int) (bc := 5) (bs := 21824) (Or.inr (Or.inl ⟨rfl, rfl, rfl⟩)) dX1_init_17 rfl ay_int (by decide) (by decide) (by decide) (by rw [h2.1]; decide) (by rw [h2.1]; decide) ?_
  rw [h2.1]
  have h3 : Cw 5 Lj2 fs0 gs0 (nA M2 1 5200) := cw_nA h2 rfl
  generalize (nA M2 1 5200) = M3 at h3 ⊢
  refine a_putR dX1_init_19 (Or.inl ⟨fl_1_15, Or.inr ⟨rfl, rfl, rfl⟩⟩) rfl (cw_l h3 (by decide)) (cw_s h3 (by decide) rfl) ?_
  have h4 : Cw 5 Lj3 fs0 gs0 (wR M3 2 1 (some 4)) := cw_R h3 (by decide) (by decide +kernel)
  generalize (wR M3 2 1 (some 4)) = M4 at h4 ⊢
  refine a_aload_n dX1_init_22 rfl rfl ?_
  refine a_sipush (v := 5200) dX1_init_23 (by decide) ?_
  refine a_newarray (t := 1) (n := 5200) (at_ := .int) (ty := .int) (bc := 4) (bs := 16624) (Or.inr (Or.inl ⟨rfl, rfl, rfl⟩)) dX1_init_26 rfl ay_int (by decide) (by decide) (by decide) (by rw [h4.1]; decide) (by rw [h4.1]; decide) ?_
  rw [h4.1]
  have h5 : Cw 6 Lj3 fs0 gs0 (nA M4 1 5200) := cw_nA h4 rfl
  generalize (nA M4 1 5200) = M5 at h5 ⊢
  refine a_putR dX1_init_28 (Or.inl ⟨fl_1_18, Or.inr ⟨rfl, rfl, rfl⟩⟩) rfl (cw_l h5 (by decide)) (cw_s h5 (by decide) rfl) ?_
  have h6 : Cw 6 Lj4 fs0 gs0 (wR M5 2 2 (some 5)) := cw_R h5 (by decide) (by decide +kernel)
  generalize (wR M5 2 2 (some 5)) = M6 at h6 ⊢
  refine a_aload_n dX1_init_31 rfl rfl ?_
  refine a_sipush (v := 5200) dX1_init_32 (by decide) ?_
  refine a_newarray (t := 2) (n := 5200) (at_ := .long) (ty := .long) (bc := 3) (bs := 11424) (Or.inr (Or.inr (Or.inl ⟨rfl, rfl, rfl⟩))) dX1_init_35 rfl ay_long (by decide) (by decide) (by decide) (by rw [h6.1]; decide) (by rw [h6.1]; decide) ?_
  rw [h6.1]
  have h7 : Cw 7 Lj4 fs0 gs0 (nA M6 2 5200) := cw_nA h6 rfl
  generalize (nA M6 2 5200) = M7 at h7 ⊢
  refine a_putR dX1_init_37 (Or.inl ⟨fl_1_21, Or.inr ⟨rfl, rfl, rfl⟩⟩) rfl (cw_l h7 (by decide)) (cw_s h7 (by decide) rfl) ?_
  have h8 : Cw 7 Lj5 fs0 gs0 (wR M7 2 3 (some 6)) := cw_R h7 (by decide) (by decide +kernel)
  generalize (wR M7 2 3 (some 6)) = M8 at h8 ⊢
  refine a_aload_n dX1_init_40 rfl rfl ?_
  refine a_sipush (v := 5200) dX1_init_41 (by decide) ?_
  refine a_newarray (t := 1) (n := 5200) (at_ := .int) (ty := .int) (bc := 2) (bs := 6224) (Or.inr (Or.inl ⟨rfl, rfl, rfl⟩)) dX1_init_44 rfl ay_int (by decide) (by decide) (by decide) (by rw [h8.1]; decide) (by rw [h8.1]; decide) ?_
  rw [h8.1]
  have h9 : Cw 8 Lj5 fs0 gs0 (nA M8 1 5200) := cw_nA h8 rfl
  generalize (nA M8 1 5200) = M9 at h9 ⊢
  refine a_putR dX1_init_46 (Or.inl ⟨fl_1_25, Or.inr ⟨rfl, rfl, rfl⟩⟩) rfl (cw_l h9 (by decide)) (cw_s h9 (by decide) rfl) ?_
  have h10 : Cw 8 Lj6 fs0 gs0 (wR M9 2 4 (some 7)) := cw_R h9 (by decide) (by decide +kernel)
  generalize (wR M9 2 4 (some 7)) = M10 at h10 ⊢
  refine a_aload_n dX1_init_49 rfl rfl ?_
  refine a_sipush (v := 5200) dX1_init_50 (by decide) ?_
  refine a_newarray (t := 1) (n := 5200) (at_ := .int) (ty := .int) (bc := 1) (bs := 1024) (Or.inr (Or.inl ⟨rfl, rfl, rfl⟩)) dX1_init_53 rfl ay_int (by decide) (by decide) (by decide) (by rw [h10.1]; decide) (by rw [h10.1]; decide) ?_
  rw [h10.1]
  have h11 : Cw 9 Lj6 fs0 gs0 (nA M10 1 5200) := cw_nA h10 rfl
  generalize (nA M10 1 5200) = M11 at h11 ⊢
  refine a_putR dX1_init_55 (Or.inl ⟨fl_1_28, Or.inr ⟨rfl, rfl, rfl⟩⟩) rfl (cw_l h11 (by decide)) (cw_s h11 (by decide) rfl) ?_
  have h12 : Cw 9 Lj7 fs0 gs0 (wR M11 2 5 (some 8)) := cw_R h11 (by decide) (by decide +kernel)
  generalize (wR M11 2 5 (some 8)) = M12 at h12 ⊢
  refine a_aload_n dX1_init_58 rfl rfl ?_
  refine a_sipush (v := 1024) dX1_init_59 (by decide) ?_
  refine a_newarray (t := 1) (n := 1024) (at_ := .int) (ty := .int) (bc := 0) (bs := 0) (Or.inr (Or.inl ⟨rfl, rfl, rfl⟩)) dX1_init_62 rfl ay_int (by decide) (by decide) (by decide) (by rw [h12.1]; decide) (by rw [h12.1]; decide) ?_
  rw [h12.1]
  have h13 : Cw 10 Lj7 fs0 gs0 (nA M12 1 1024) := cw_nA h12 rfl
  generalize (nA M12 1 1024) = M13 at h13 ⊢
  refine a_putR dX1_init_64 (Or.inl ⟨fl_1_31, Or.inr ⟨rfl, rfl, rfl⟩⟩) rfl (cw_l h13 (by decide)) (cw_s h13 (by decide) rfl) ?_
  have h14 : Cw 10 Lj8 fs0 gs0 (wR M13 2 6 (some 9)) := cw_R h13 (by decide) (by decide +kernel)
  generalize (wR M13 2 6 (some 9)) = M14 at h14 ⊢
  refine a_iconst (v := 0) dX1_init_67 (by decide) ?_
  refine a_istore_n dX1_init_68 rfl (Nat.le_of_ble_eq_true rfl) (lv2 := [(1, .int 0), (0, .ref 2)]) rfl ?_
  refine lp_heads (L := Lj8) (f := fs0) (g := gs0) (by decide +kernel) (fun M15 h15 => ?_) 1024 0 _ rfl (by rw [fH0]; exact h14)
  refine a_iconst (v := 0) dX1_init_89 (by decide) ?_
  refine a_istore_n dX1_init_90 rfl (Nat.le_of_ble_eq_true rfl) (lv2 := [(1, .int 0), (0, .ref 2)]) rfl ?_
  refine a_iload_n dX1_init_91 rfl rfl ?_
  refine a_bipush (v := 8) dX1_init_92 (by decide) ?_
  refine a_icmp_gt 135 dX1_init_94 (by decide) (fun c => absurd c (by decide)) (fun _ => ?_)
  refine a_aload_n dX1_init_97 rfl rfl ?_
  refine a_get (v := .ref 3) dX1_init_98 fl_1_11 (cw_l h15 (by decide)) (cw_s h15 (by decide) rfl) (cw_g h15 rfl (by decide +kernel)) ?_
  refine a_iload_n dX1_init_101 rfl rfl ?_
  refine a_iload_n dX1_init_102 rfl rfl ?_
  refine a_iastore dX1_init_103 (cw_l h15 (by decide)) (cw_s h15 (by decide) rfl) (by unfold vp_in; decide +kernel) ?_
  rw [show Int32.toNatClampNeg 0 = 0 from by decide +kernel]
  have h16 : Cw 10 Lj8 fs2 gs0 (wI M15 3 0 0) := cw_I h15 (by decide)
  generalize (wI M15 3 0 0) = M16 at h16 ⊢
  refine a_aload_n dX1_init_104 rfl rfl ?_
  refine a_get (v := .ref 4) dX1_init_105 fl_1_15 (cw_l h16 (by decide)) (cw_s h16 (by decide) rfl) (cw_g h16 rfl (by decide +kernel)) ?_
  refine a_iload_n dX1_init_108 rfl rfl ?_
  refine a_iconst (v := (-1)) dX1_init_109 (by decide) ?_
  refine a_iastore dX1_init_110 (cw_l h16 (by decide)) (cw_s h16 (by decide) rfl) (by unfold vp_in; decide +kernel) ?_
  rw [show Int32.toNatClampNeg 0 = 0 from by decide +kernel]
  have h17 : Cw 10 Lj8 fs3 gs0 (wI M16 4 0 (-1)) := cw_I h16 (by decide)
  generalize (wI M16 4 0 (-1)) = M17 at h17 ⊢
  refine a_aload_n dX1_init_111 rfl rfl ?_
  refine a_get (v := .ref 5) dX1_init_112 fl_1_18 (cw_l h17 (by decide)) (cw_s h17 (by decide) rfl) (cw_g h17 rfl (by decide +kernel)) ?_
  refine a_iload_n dX1_init_115 rfl rfl ?_
  refine a_iconst (v := (-1)) dX1_init_116 (by decide) ?_
  refine a_iastore dX1_init_117 (cw_l h17 (by decide)) (cw_s h17 (by decide) rfl) (by unfold vp_in; decide +kernel) ?_
  rw [show Int32.toNatClampNeg 0 = 0 from by decide +kernel]
  have h18 : Cw 10 Lj8 fs4 gs0 (wI M17 5 0 (-1)) := cw_I h17 (by decide)
  generalize (wI M17 5 0 (-1)) = M18 at h18 ⊢
  refine a_aload_n dX1_init_118 rfl rfl ?_
  refine a_get (v := .ref 6) dX1_init_119 fl_1_21 (cw_l h18 (by decide)) (cw_s h18 (by decide) rfl) (cw_g h18 rfl (by decide +kernel)) ?_
  refine a_iload_n dX1_init_122 rfl rfl ?_
  refine a_iload_n dX1_init_123 rfl rfl ?_
  refine a_callS (As := [.int 0]) (st := [.int 0, .ref 6]) (bc := 0) (bs := 0) (mc := 0) (ms := 0) true dX1_init_124 mw_X10_wordLength rfl (Or.inr ⟨rfl, mn_X1_34⟩) sm_X10_wordLength rfl (by decide) (k_wordLength (fr := fr + 4) 0) (fun v M1 hq => ?_)
  obtain ⟨rfl, hM1⟩ := hq
  rw [hM1]
  clear hM1 M1
  refine a_st (st2 := [.int 1, .int 0, .ref 6]) (by decide +kernel) ?_
  refine a_i2l dX1_init_127 ?_
  refine a_st (st2 := [.long 1, .int 0, .ref 6]) (by decide) ?_
  refine a_lastore dX1_init_128 (cw_l h18 (by decide)) (cw_s h18 (by decide) rfl) (by unfold vp_in; decide +kernel) ?_
  rw [show Int32.toNatClampNeg 0 = 0 from by decide +kernel]
  have h19 : Cw 10 Lj8 fs4 gs1 (wJ M18 6 0 1) := cw_J h18 (by decide)
  generalize (wJ M18 6 0 1) = M19 at h19 ⊢
  refine a_iinc (v := 1) dX1_init_129 rfl (by decide) (Nat.le_of_ble_eq_true rfl) (lv2 := [(1, .int 1), (0, .ref 2)]) rfl ?_
  refine a_goto 91 dX1_init_132 (by decide) ?_
  refine a_iload_n dX1_init_91 rfl rfl ?_
  refine a_bipush (v := 8) dX1_init_92 (by decide) ?_
  refine a_icmp_gt 135 dX1_init_94 (by decide) (fun c => absurd c (by decide)) (fun _ => ?_)
  refine a_aload_n dX1_init_97 rfl rfl ?_
  refine a_get (v := .ref 3) dX1_init_98 fl_1_11 (cw_l h19 (by decide)) (cw_s h19 (by decide) rfl) (cw_g h19 rfl (by decide +kernel)) ?_
  refine a_iload_n dX1_init_101 rfl rfl ?_
  refine a_iload_n dX1_init_102 rfl rfl ?_
  refine a_iastore dX1_init_103 (cw_l h19 (by decide)) (cw_s h19 (by decide) rfl) (by unfold vp_in; decide +kernel) ?_
  rw [show Int32.toNatClampNeg 1 = 1 from by decide +kernel]
  have h20 : Cw 10 Lj8 fs5 gs1 (wI M19 3 1 1) := cw_I h19 (by decide)
  generalize (wI M19 3 1 1) = M20 at h20 ⊢
  refine a_aload_n dX1_init_104 rfl rfl ?_
  refine a_get (v := .ref 4) dX1_init_105 fl_1_15 (cw_l h20 (by decide)) (cw_s h20 (by decide) rfl) (cw_g h20 rfl (by decide +kernel)) ?_
  refine a_iload_n dX1_init_108 rfl rfl ?_
  refine a_iconst (v := (-1)) dX1_init_109 (by decide) ?_
  refine a_iastore dX1_init_110 (cw_l h20 (by decide)) (cw_s h20 (by decide) rfl) (by unfold vp_in; decide +kernel) ?_
  rw [show Int32.toNatClampNeg 1 = 1 from by decide +kernel]
  have h21 : Cw 10 Lj8 fs6 gs1 (wI M20 4 1 (-1)) := cw_I h20 (by decide)
  generalize (wI M20 4 1 (-1)) = M21 at h21 ⊢
  refine a_aload_n dX1_init_111 rfl rfl ?_
  refine a_get (v := .ref 5) dX1_init_112 fl_1_18 (cw_l h21 (by decide)) (cw_s h21 (by decide) rfl) (cw_g h21 rfl (by decide +kernel)) ?_
  refine a_iload_n dX1_init_115 rfl rfl ?_
  refine a_iconst (v := (-1)) dX1_init_116 (by decide) ?_
  refine a_iastore dX1_init_117 (cw_l h21 (by decide)) (cw_s h21 (by decide) rfl) (by unfold vp_in; decide +kernel) ?_
  rw [show Int32.toNatClampNeg 1 = 1 from by decide +kernel]
  have h22 : Cw 10 Lj8 fs7 gs1 (wI M21 5 1 (-1)) := cw_I h21 (by decide)
  generalize (wI M21 5 1 (-1)) = M22 at h22 ⊢
  refine a_aload_n dX1_init_118 rfl rfl ?_
  refine a_get (v := .ref 6) dX1_init_119 fl_1_21 (cw_l h22 (by decide)) (cw_s h22 (by decide) rfl) (cw_g h22 rfl (by decide +kernel)) ?_
  refine a_iload_n dX1_init_122 rfl rfl ?_
  refine a_iload_n dX1_init_123 rfl rfl ?_
  refine a_callS (As := [.int 1]) (st := [.int 1, .ref 6]) (bc := 0) (bs := 0) (mc := 0) (ms := 0) true dX1_init_124 mw_X10_wordLength rfl (Or.inr ⟨rfl, mn_X1_34⟩) sm_X10_wordLength rfl (by decide) (k_wordLength (fr := fr + 4) 1) (fun v M1 hq => ?_)
  obtain ⟨rfl, hM1⟩ := hq
  rw [hM1]
  clear hM1 M1
  refine a_st (st2 := [.int 1, .int 1, .ref 6]) (by decide +kernel) ?_
  refine a_i2l dX1_init_127 ?_
  refine a_st (st2 := [.long 1, .int 1, .ref 6]) (by decide) ?_
  refine a_lastore dX1_init_128 (cw_l h22 (by decide)) (cw_s h22 (by decide) rfl) (by unfold vp_in; decide +kernel) ?_
  rw [show Int32.toNatClampNeg 1 = 1 from by decide +kernel]
  have h23 : Cw 10 Lj8 fs7 gs2 (wJ M22 6 1 1) := cw_J h22 (by decide)
  generalize (wJ M22 6 1 1) = M23 at h23 ⊢
  refine a_iinc (v := 2) dX1_init_129 rfl (by decide) (Nat.le_of_ble_eq_true rfl) (lv2 := [(1, .int 2), (0, .ref 2)]) rfl ?_
  refine a_goto 91 dX1_init_132 (by decide) ?_
  refine a_iload_n dX1_init_91 rfl rfl ?_
  refine a_bipush (v := 8) dX1_init_92 (by decide) ?_
  refine a_icmp_gt 135 dX1_init_94 (by decide) (fun c => absurd c (by decide)) (fun _ => ?_)
  refine a_aload_n dX1_init_97 rfl rfl ?_
  refine a_get (v := .ref 3) dX1_init_98 fl_1_11 (cw_l h23 (by decide)) (cw_s h23 (by decide) rfl) (cw_g h23 rfl (by decide +kernel)) ?_
  refine a_iload_n dX1_init_101 rfl rfl ?_
  refine a_iload_n dX1_init_102 rfl rfl ?_
  refine a_iastore dX1_init_103 (cw_l h23 (by decide)) (cw_s h23 (by decide) rfl) (by unfold vp_in; decide +kernel) ?_
  rw [show Int32.toNatClampNeg 2 = 2 from by decide +kernel]
  have h24 : Cw 10 Lj8 fs8 gs2 (wI M23 3 2 2) := cw_I h23 (by decide)
  generalize (wI M23 3 2 2) = M24 at h24 ⊢
  refine a_aload_n dX1_init_104 rfl rfl ?_
  refine a_get (v := .ref 4) dX1_init_105 fl_1_15 (cw_l h24 (by decide)) (cw_s h24 (by decide) rfl) (cw_g h24 rfl (by decide +kernel)) ?_
  refine a_iload_n dX1_init_108 rfl rfl ?_
  refine a_iconst (v := (-1)) dX1_init_109 (by decide) ?_
  refine a_iastore dX1_init_110 (cw_l h24 (by decide)) (cw_s h24 (by decide) rfl) (by unfold vp_in; decide +kernel) ?_
  rw [show Int32.toNatClampNeg 2 = 2 from by decide +kernel]
  have h25 : Cw 10 Lj8 fs9 gs2 (wI M24 4 2 (-1)) := cw_I h24 (by decide)
  generalize (wI M24 4 2 (-1)) = M25 at h25 ⊢
  refine a_aload_n dX1_init_111 rfl rfl ?_
  refine a_get (v := .ref 5) dX1_init_112 fl_1_18 (cw_l h25 (by decide)) (cw_s h25 (by decide) rfl) (cw_g h25 rfl (by decide +kernel)) ?_
  refine a_iload_n dX1_init_115 rfl rfl ?_
  refine a_iconst (v := (-1)) dX1_init_116 (by decide) ?_
  refine a_iastore dX1_init_117 (cw_l h25 (by decide)) (cw_s h25 (by decide) rfl) (by unfold vp_in; decide +kernel) ?_
  rw [show Int32.toNatClampNeg 2 = 2 from by decide +kernel]
  have h26 : Cw 10 Lj8 fs10 gs2 (wI M25 5 2 (-1)) := cw_I h25 (by decide)
  generalize (wI M25 5 2 (-1)) = M26 at h26 ⊢
  refine a_aload_n dX1_init_118 rfl rfl ?_
  refine a_get (v := .ref 6) dX1_init_119 fl_1_21 (cw_l h26 (by decide)) (cw_s h26 (by decide) rfl) (cw_g h26 rfl (by decide +kernel)) ?_
  refine a_iload_n dX1_init_122 rfl rfl ?_
  refine a_iload_n dX1_init_123 rfl rfl ?_
  refine a_callS (As := [.int 2]) (st := [.int 2, .ref 6]) (bc := 0) (bs := 0) (mc := 0) (ms := 0) true dX1_init_124 mw_X10_wordLength rfl (Or.inr ⟨rfl, mn_X1_34⟩) sm_X10_wordLength rfl (by decide) (k_wordLength (fr := fr + 4) 2) (fun v M1 hq => ?_)
  obtain ⟨rfl, hM1⟩ := hq
  rw [hM1]
  clear hM1 M1
  refine a_st (st2 := [.int 1, .int 2, .ref 6]) (by decide +kernel) ?_
  refine a_i2l dX1_init_127 ?_
  refine a_st (st2 := [.long 1, .int 2, .ref 6]) (by decide) ?_
  refine a_lastore dX1_init_128 (cw_l h26 (by decide)) (cw_s h26 (by decide) rfl) (by unfold vp_in; decide +kernel) ?_
  rw [show Int32.toNatClampNeg 2 = 2 from by decide +kernel]
  have h27 : Cw 10 Lj8 fs10 gs3 (wJ M26 6 2 1) := cw_J h26 (by decide)
  generalize (wJ M26 6 2 1) = M27 at h27 ⊢
  refine a_iinc (v := 3) dX1_init_129 rfl (by decide) (Nat.le_of_ble_eq_true rfl) (lv2 := [(1, .int 3), (0, .ref 2)]) rfl ?_
  refine a_goto 91 dX1_init_132 (by decide) ?_
  refine a_iload_n dX1_init_91 rfl rfl ?_
  refine a_bipush (v := 8) dX1_init_92 (by decide) ?_
  refine a_icmp_gt 135 dX1_init_94 (by decide) (fun c => absurd c (by decide)) (fun _ => ?_)
  refine a_aload_n dX1_init_97 rfl rfl ?_
  refine a_get (v := .ref 3) dX1_init_98 fl_1_11 (cw_l h27 (by decide)) (cw_s h27 (by decide) rfl) (cw_g h27 rfl (by decide +kernel)) ?_
  refine a_iload_n dX1_init_101 rfl rfl ?_
  refine a_iload_n dX1_init_102 rfl rfl ?_
  refine a_iastore dX1_init_103 (cw_l h27 (by decide)) (cw_s h27 (by decide) rfl) (by unfold vp_in; decide +kernel) ?_
  rw [show Int32.toNatClampNeg 3 = 3 from by decide +kernel]
  have h28 : Cw 10 Lj8 fs11 gs3 (wI M27 3 3 3) := cw_I h27 (by decide)
  generalize (wI M27 3 3 3) = M28 at h28 ⊢
  refine a_aload_n dX1_init_104 rfl rfl ?_
  refine a_get (v := .ref 4) dX1_init_105 fl_1_15 (cw_l h28 (by decide)) (cw_s h28 (by decide) rfl) (cw_g h28 rfl (by decide +kernel)) ?_
  refine a_iload_n dX1_init_108 rfl rfl ?_
  refine a_iconst (v := (-1)) dX1_init_109 (by decide) ?_
  refine a_iastore dX1_init_110 (cw_l h28 (by decide)) (cw_s h28 (by decide) rfl) (by unfold vp_in; decide +kernel) ?_
  rw [show Int32.toNatClampNeg 3 = 3 from by decide +kernel]
  have h29 : Cw 10 Lj8 fs12 gs3 (wI M28 4 3 (-1)) := cw_I h28 (by decide)
  generalize (wI M28 4 3 (-1)) = M29 at h29 ⊢
  refine a_aload_n dX1_init_111 rfl rfl ?_
  refine a_get (v := .ref 5) dX1_init_112 fl_1_18 (cw_l h29 (by decide)) (cw_s h29 (by decide) rfl) (cw_g h29 rfl (by decide +kernel)) ?_
  refine a_iload_n dX1_init_115 rfl rfl ?_
  refine a_iconst (v := (-1)) dX1_init_116 (by decide) ?_
  refine a_iastore dX1_init_117 (cw_l h29 (by decide)) (cw_s h29 (by decide) rfl) (by unfold vp_in; decide +kernel) ?_
  rw [show Int32.toNatClampNeg 3 = 3 from by decide +kernel]
  have h30 : Cw 10 Lj8 fs13 gs3 (wI M29 5 3 (-1)) := cw_I h29 (by decide)
  generalize (wI M29 5 3 (-1)) = M30 at h30 ⊢
  refine a_aload_n dX1_init_118 rfl rfl ?_
  refine a_get (v := .ref 6) dX1_init_119 fl_1_21 (cw_l h30 (by decide)) (cw_s h30 (by decide) rfl) (cw_g h30 rfl (by decide +kernel)) ?_
  refine a_iload_n dX1_init_122 rfl rfl ?_
  refine a_iload_n dX1_init_123 rfl rfl ?_
  refine a_callS (As := [.int 3]) (st := [.int 3, .ref 6]) (bc := 0) (bs := 0) (mc := 0) (ms := 0) true dX1_init_124 mw_X10_wordLength rfl (Or.inr ⟨rfl, mn_X1_34⟩) sm_X10_wordLength rfl (by decide) (k_wordLength (fr := fr + 4) 3) (fun v M1 hq => ?_)
  obtain ⟨rfl, hM1⟩ := hq
  rw [hM1]
  clear hM1 M1
  refine a_st (st2 := [.int 1, .int 3, .ref 6]) (by decide +kernel) ?_
  refine a_i2l dX1_init_127 ?_
  refine a_st (st2 := [.long 1, .int 3, .ref 6]) (by decide) ?_
  refine a_lastore dX1_init_128 (cw_l h30 (by decide)) (cw_s h30 (by decide) rfl) (by unfold vp_in; decide +kernel) ?_
  rw [show Int32.toNatClampNeg 3 = 3 from by decide +kernel]
  have h31 : Cw 10 Lj8 fs13 gs4 (wJ M30 6 3 1) := cw_J h30 (by decide)
  generalize (wJ M30 6 3 1) = M31 at h31 ⊢
  refine a_iinc (v := 4) dX1_init_129 rfl (by decide) (Nat.le_of_ble_eq_true rfl) (lv2 := [(1, .int 4), (0, .ref 2)]) rfl ?_
  refine a_goto 91 dX1_init_132 (by decide) ?_
  refine a_iload_n dX1_init_91 rfl rfl ?_
  refine a_bipush (v := 8) dX1_init_92 (by decide) ?_
  refine a_icmp_gt 135 dX1_init_94 (by decide) (fun c => absurd c (by decide)) (fun _ => ?_)
  refine a_aload_n dX1_init_97 rfl rfl ?_
  refine a_get (v := .ref 3) dX1_init_98 fl_1_11 (cw_l h31 (by decide)) (cw_s h31 (by decide) rfl) (cw_g h31 rfl (by decide +kernel)) ?_
  refine a_iload_n dX1_init_101 rfl rfl ?_
  refine a_iload_n dX1_init_102 rfl rfl ?_
  refine a_iastore dX1_init_103 (cw_l h31 (by decide)) (cw_s h31 (by decide) rfl) (by unfold vp_in; decide +kernel) ?_
  rw [show Int32.toNatClampNeg 4 = 4 from by decide +kernel]
  have h32 : Cw 10 Lj8 fs14 gs4 (wI M31 3 4 4) := cw_I h31 (by decide)
  generalize (wI M31 3 4 4) = M32 at h32 ⊢
  refine a_aload_n dX1_init_104 rfl rfl ?_
  refine a_get (v := .ref 4) dX1_init_105 fl_1_15 (cw_l h32 (by decide)) (cw_s h32 (by decide) rfl) (cw_g h32 rfl (by decide +kernel)) ?_
  refine a_iload_n dX1_init_108 rfl rfl ?_
  refine a_iconst (v := (-1)) dX1_init_109 (by decide) ?_
  refine a_iastore dX1_init_110 (cw_l h32 (by decide)) (cw_s h32 (by decide) rfl) (by unfold vp_in; decide +kernel) ?_
  rw [show Int32.toNatClampNeg 4 = 4 from by decide +kernel]
  have h33 : Cw 10 Lj8 fs15 gs4 (wI M32 4 4 (-1)) := cw_I h32 (by decide)
  generalize (wI M32 4 4 (-1)) = M33 at h33 ⊢
  refine a_aload_n dX1_init_111 rfl rfl ?_
  refine a_get (v := .ref 5) dX1_init_112 fl_1_18 (cw_l h33 (by decide)) (cw_s h33 (by decide) rfl) (cw_g h33 rfl (by decide +kernel)) ?_
  refine a_iload_n dX1_init_115 rfl rfl ?_
  refine a_iconst (v := (-1)) dX1_init_116 (by decide) ?_
  refine a_iastore dX1_init_117 (cw_l h33 (by decide)) (cw_s h33 (by decide) rfl) (by unfold vp_in; decide +kernel) ?_
  rw [show Int32.toNatClampNeg 4 = 4 from by decide +kernel]
  have h34 : Cw 10 Lj8 fs16 gs4 (wI M33 5 4 (-1)) := cw_I h33 (by decide)
  generalize (wI M33 5 4 (-1)) = M34 at h34 ⊢
  refine a_aload_n dX1_init_118 rfl rfl ?_
  refine a_get (v := .ref 6) dX1_init_119 fl_1_21 (cw_l h34 (by decide)) (cw_s h34 (by decide) rfl) (cw_g h34 rfl (by decide +kernel)) ?_
  refine a_iload_n dX1_init_122 rfl rfl ?_
  refine a_iload_n dX1_init_123 rfl rfl ?_
  refine a_callS (As := [.int 4]) (st := [.int 4, .ref 6]) (bc := 0) (bs := 0) (mc := 0) (ms := 0) true dX1_init_124 mw_X10_wordLength rfl (Or.inr ⟨rfl, mn_X1_34⟩) sm_X10_wordLength rfl (by decide) (k_wordLength (fr := fr + 4) 4) (fun v M1 hq => ?_)
  obtain ⟨rfl, hM1⟩ := hq
  rw [hM1]
  clear hM1 M1
  refine a_st (st2 := [.int 1, .int 4, .ref 6]) (by decide +kernel) ?_
  refine a_i2l dX1_init_127 ?_
  refine a_st (st2 := [.long 1, .int 4, .ref 6]) (by decide) ?_
  refine a_lastore dX1_init_128 (cw_l h34 (by decide)) (cw_s h34 (by decide) rfl) (by unfold vp_in; decide +kernel) ?_
  rw [show Int32.toNatClampNeg 4 = 4 from by decide +kernel]
  have h35 : Cw 10 Lj8 fs16 gs5 (wJ M34 6 4 1) := cw_J h34 (by decide)
  generalize (wJ M34 6 4 1) = M35 at h35 ⊢
  refine a_iinc (v := 5) dX1_init_129 rfl (by decide) (Nat.le_of_ble_eq_true rfl) (lv2 := [(1, .int 5), (0, .ref 2)]) rfl ?_
  refine a_goto 91 dX1_init_132 (by decide) ?_
  refine a_iload_n dX1_init_91 rfl rfl ?_
  refine a_bipush (v := 8) dX1_init_92 (by decide) ?_
  refine a_icmp_gt 135 dX1_init_94 (by decide) (fun c => absurd c (by decide)) (fun _ => ?_)
  refine a_aload_n dX1_init_97 rfl rfl ?_
  refine a_get (v := .ref 3) dX1_init_98 fl_1_11 (cw_l h35 (by decide)) (cw_s h35 (by decide) rfl) (cw_g h35 rfl (by decide +kernel)) ?_
  refine a_iload_n dX1_init_101 rfl rfl ?_
  refine a_iload_n dX1_init_102 rfl rfl ?_
  refine a_iastore dX1_init_103 (cw_l h35 (by decide)) (cw_s h35 (by decide) rfl) (by unfold vp_in; decide +kernel) ?_
  rw [show Int32.toNatClampNeg 5 = 5 from by decide +kernel]
  have h36 : Cw 10 Lj8 fs17 gs5 (wI M35 3 5 5) := cw_I h35 (by decide)
  generalize (wI M35 3 5 5) = M36 at h36 ⊢
  refine a_aload_n dX1_init_104 rfl rfl ?_
  refine a_get (v := .ref 4) dX1_init_105 fl_1_15 (cw_l h36 (by decide)) (cw_s h36 (by decide) rfl) (cw_g h36 rfl (by decide +kernel)) ?_
  refine a_iload_n dX1_init_108 rfl rfl ?_
  refine a_iconst (v := (-1)) dX1_init_109 (by decide) ?_
  refine a_iastore dX1_init_110 (cw_l h36 (by decide)) (cw_s h36 (by decide) rfl) (by unfold vp_in; decide +kernel) ?_
  rw [show Int32.toNatClampNeg 5 = 5 from by decide +kernel]
  have h37 : Cw 10 Lj8 fs18 gs5 (wI M36 4 5 (-1)) := cw_I h36 (by decide)
  generalize (wI M36 4 5 (-1)) = M37 at h37 ⊢
  refine a_aload_n dX1_init_111 rfl rfl ?_
  refine a_get (v := .ref 5) dX1_init_112 fl_1_18 (cw_l h37 (by decide)) (cw_s h37 (by decide) rfl) (cw_g h37 rfl (by decide +kernel)) ?_
  refine a_iload_n dX1_init_115 rfl rfl ?_
  refine a_iconst (v := (-1)) dX1_init_116 (by decide) ?_
  refine a_iastore dX1_init_117 (cw_l h37 (by decide)) (cw_s h37 (by decide) rfl) (by unfold vp_in; decide +kernel) ?_
  rw [show Int32.toNatClampNeg 5 = 5 from by decide +kernel]
  have h38 : Cw 10 Lj8 fs19 gs5 (wI M37 5 5 (-1)) := cw_I h37 (by decide)
  generalize (wI M37 5 5 (-1)) = M38 at h38 ⊢
  refine a_aload_n dX1_init_118 rfl rfl ?_
  refine a_get (v := .ref 6) dX1_init_119 fl_1_21 (cw_l h38 (by decide)) (cw_s h38 (by decide) rfl) (cw_g h38 rfl (by decide +kernel)) ?_
  refine a_iload_n dX1_init_122 rfl rfl ?_
  refine a_iload_n dX1_init_123 rfl rfl ?_
  refine a_callS (As := [.int 5]) (st := [.int 5, .ref 6]) (bc := 0) (bs := 0) (mc := 0) (ms := 0) true dX1_init_124 mw_X10_wordLength rfl (Or.inr ⟨rfl, mn_X1_34⟩) sm_X10_wordLength rfl (by decide) (k_wordLength (fr := fr + 4) 5) (fun v M1 hq => ?_)
  obtain ⟨rfl, hM1⟩ := hq
  rw [hM1]
  clear hM1 M1
  refine a_st (st2 := [.int 1, .int 5, .ref 6]) (by decide +kernel) ?_
  refine a_i2l dX1_init_127 ?_
  refine a_st (st2 := [.long 1, .int 5, .ref 6]) (by decide) ?_
  refine a_lastore dX1_init_128 (cw_l h38 (by decide)) (cw_s h38 (by decide) rfl) (by unfold vp_in; decide +kernel) ?_
  rw [show Int32.toNatClampNeg 5 = 5 from by decide +kernel]
  have h39 : Cw 10 Lj8 fs19 gs6 (wJ M38 6 5 1) := cw_J h38 (by decide)
  generalize (wJ M38 6 5 1) = M39 at h39 ⊢
  refine a_iinc (v := 6) dX1_init_129 rfl (by decide) (Nat.le_of_ble_eq_true rfl) (lv2 := [(1, .int 6), (0, .ref 2)]) rfl ?_
  refine a_goto 91 dX1_init_132 (by decide) ?_
  refine a_iload_n dX1_init_91 rfl rfl ?_
  refine a_bipush (v := 8) dX1_init_92 (by decide) ?_
  refine a_icmp_gt 135 dX1_init_94 (by decide) (fun c => absurd c (by decide)) (fun _ => ?_)
  refine a_aload_n dX1_init_97 rfl rfl ?_
  refine a_get (v := .ref 3) dX1_init_98 fl_1_11 (cw_l h39 (by decide)) (cw_s h39 (by decide) rfl) (cw_g h39 rfl (by decide +kernel)) ?_
  refine a_iload_n dX1_init_101 rfl rfl ?_
  refine a_iload_n dX1_init_102 rfl rfl ?_
  refine a_iastore dX1_init_103 (cw_l h39 (by decide)) (cw_s h39 (by decide) rfl) (by unfold vp_in; decide +kernel) ?_
  rw [show Int32.toNatClampNeg 6 = 6 from by decide +kernel]
  have h40 : Cw 10 Lj8 fs20 gs6 (wI M39 3 6 6) := cw_I h39 (by decide)
  generalize (wI M39 3 6 6) = M40 at h40 ⊢
  refine a_aload_n dX1_init_104 rfl rfl ?_
  refine a_get (v := .ref 4) dX1_init_105 fl_1_15 (cw_l h40 (by decide)) (cw_s h40 (by decide) rfl) (cw_g h40 rfl (by decide +kernel)) ?_
  refine a_iload_n dX1_init_108 rfl rfl ?_
  refine a_iconst (v := (-1)) dX1_init_109 (by decide) ?_
  refine a_iastore dX1_init_110 (cw_l h40 (by decide)) (cw_s h40 (by decide) rfl) (by unfold vp_in; decide +kernel) ?_
  rw [show Int32.toNatClampNeg 6 = 6 from by decide +kernel]
  have h41 : Cw 10 Lj8 fs21 gs6 (wI M40 4 6 (-1)) := cw_I h40 (by decide)
  generalize (wI M40 4 6 (-1)) = M41 at h41 ⊢
  refine a_aload_n dX1_init_111 rfl rfl ?_
  refine a_get (v := .ref 5) dX1_init_112 fl_1_18 (cw_l h41 (by decide)) (cw_s h41 (by decide) rfl) (cw_g h41 rfl (by decide +kernel)) ?_
  refine a_iload_n dX1_init_115 rfl rfl ?_
  refine a_iconst (v := (-1)) dX1_init_116 (by decide) ?_
  refine a_iastore dX1_init_117 (cw_l h41 (by decide)) (cw_s h41 (by decide) rfl) (by unfold vp_in; decide +kernel) ?_
  rw [show Int32.toNatClampNeg 6 = 6 from by decide +kernel]
  have h42 : Cw 10 Lj8 fs22 gs6 (wI M41 5 6 (-1)) := cw_I h41 (by decide)
  generalize (wI M41 5 6 (-1)) = M42 at h42 ⊢
  refine a_aload_n dX1_init_118 rfl rfl ?_
  refine a_get (v := .ref 6) dX1_init_119 fl_1_21 (cw_l h42 (by decide)) (cw_s h42 (by decide) rfl) (cw_g h42 rfl (by decide +kernel)) ?_
  refine a_iload_n dX1_init_122 rfl rfl ?_
  refine a_iload_n dX1_init_123 rfl rfl ?_
  refine a_callS (As := [.int 6]) (st := [.int 6, .ref 6]) (bc := 0) (bs := 0) (mc := 0) (ms := 0) true dX1_init_124 mw_X10_wordLength rfl (Or.inr ⟨rfl, mn_X1_34⟩) sm_X10_wordLength rfl (by decide) (k_wordLength (fr := fr + 4) 6) (fun v M1 hq => ?_)
  obtain ⟨rfl, hM1⟩ := hq
  rw [hM1]
  clear hM1 M1
  refine a_st (st2 := [.int 1, .int 6, .ref 6]) (by decide +kernel) ?_
  refine a_i2l dX1_init_127 ?_
  refine a_st (st2 := [.long 1, .int 6, .ref 6]) (by decide) ?_
  refine a_lastore dX1_init_128 (cw_l h42 (by decide)) (cw_s h42 (by decide) rfl) (by unfold vp_in; decide +kernel) ?_
  rw [show Int32.toNatClampNeg 6 = 6 from by decide +kernel]
  have h43 : Cw 10 Lj8 fs22 gs7 (wJ M42 6 6 1) := cw_J h42 (by decide)
  generalize (wJ M42 6 6 1) = M43 at h43 ⊢
  refine a_iinc (v := 7) dX1_init_129 rfl (by decide) (Nat.le_of_ble_eq_true rfl) (lv2 := [(1, .int 7), (0, .ref 2)]) rfl ?_
  refine a_goto 91 dX1_init_132 (by decide) ?_
  refine a_iload_n dX1_init_91 rfl rfl ?_
  refine a_bipush (v := 8) dX1_init_92 (by decide) ?_
  refine a_icmp_gt 135 dX1_init_94 (by decide) (fun c => absurd c (by decide)) (fun _ => ?_)
  refine a_aload_n dX1_init_97 rfl rfl ?_
  refine a_get (v := .ref 3) dX1_init_98 fl_1_11 (cw_l h43 (by decide)) (cw_s h43 (by decide) rfl) (cw_g h43 rfl (by decide +kernel)) ?_
  refine a_iload_n dX1_init_101 rfl rfl ?_
  refine a_iload_n dX1_init_102 rfl rfl ?_
  refine a_iastore dX1_init_103 (cw_l h43 (by decide)) (cw_s h43 (by decide) rfl) (by unfold vp_in; decide +kernel) ?_
  rw [show Int32.toNatClampNeg 7 = 7 from by decide +kernel]
  have h44 : Cw 10 Lj8 fs23 gs7 (wI M43 3 7 7) := cw_I h43 (by decide)
  generalize (wI M43 3 7 7) = M44 at h44 ⊢
  refine a_aload_n dX1_init_104 rfl rfl ?_
  refine a_get (v := .ref 4) dX1_init_105 fl_1_15 (cw_l h44 (by decide)) (cw_s h44 (by decide) rfl) (cw_g h44 rfl (by decide +kernel)) ?_
  refine a_iload_n dX1_init_108 rfl rfl ?_
  refine a_iconst (v := (-1)) dX1_init_109 (by decide) ?_
  refine a_iastore dX1_init_110 (cw_l h44 (by decide)) (cw_s h44 (by decide) rfl) (by unfold vp_in; decide +kernel) ?_
  rw [show Int32.toNatClampNeg 7 = 7 from by decide +kernel]
  have h45 : Cw 10 Lj8 fs24 gs7 (wI M44 4 7 (-1)) := cw_I h44 (by decide)
  generalize (wI M44 4 7 (-1)) = M45 at h45 ⊢
  refine a_aload_n dX1_init_111 rfl rfl ?_
  refine a_get (v := .ref 5) dX1_init_112 fl_1_18 (cw_l h45 (by decide)) (cw_s h45 (by decide) rfl) (cw_g h45 rfl (by decide +kernel)) ?_
  refine a_iload_n dX1_init_115 rfl rfl ?_
  refine a_iconst (v := (-1)) dX1_init_116 (by decide) ?_
  refine a_iastore dX1_init_117 (cw_l h45 (by decide)) (cw_s h45 (by decide) rfl) (by unfold vp_in; decide +kernel) ?_
  rw [show Int32.toNatClampNeg 7 = 7 from by decide +kernel]
  have h46 : Cw 10 Lj8 fs25 gs7 (wI M45 5 7 (-1)) := cw_I h45 (by decide)
  generalize (wI M45 5 7 (-1)) = M46 at h46 ⊢
  refine a_aload_n dX1_init_118 rfl rfl ?_
  refine a_get (v := .ref 6) dX1_init_119 fl_1_21 (cw_l h46 (by decide)) (cw_s h46 (by decide) rfl) (cw_g h46 rfl (by decide +kernel)) ?_
  refine a_iload_n dX1_init_122 rfl rfl ?_
  refine a_iload_n dX1_init_123 rfl rfl ?_
  refine a_callS (As := [.int 7]) (st := [.int 7, .ref 6]) (bc := 0) (bs := 0) (mc := 0) (ms := 0) true dX1_init_124 mw_X10_wordLength rfl (Or.inr ⟨rfl, mn_X1_34⟩) sm_X10_wordLength rfl (by decide) (k_wordLength (fr := fr + 4) 7) (fun v M1 hq => ?_)
  obtain ⟨rfl, hM1⟩ := hq
  rw [hM1]
  clear hM1 M1
  refine a_st (st2 := [.int 1, .int 7, .ref 6]) (by decide +kernel) ?_
  refine a_i2l dX1_init_127 ?_
  refine a_st (st2 := [.long 1, .int 7, .ref 6]) (by decide) ?_
  refine a_lastore dX1_init_128 (cw_l h46 (by decide)) (cw_s h46 (by decide) rfl) (by unfold vp_in; decide +kernel) ?_
  rw [show Int32.toNatClampNeg 7 = 7 from by decide +kernel]
  have h47 : Cw 10 Lj8 fs25 gs8 (wJ M46 6 7 1) := cw_J h46 (by decide)
  generalize (wJ M46 6 7 1) = M47 at h47 ⊢
  refine a_iinc (v := 8) dX1_init_129 rfl (by decide) (Nat.le_of_ble_eq_true rfl) (lv2 := [(1, .int 8), (0, .ref 2)]) rfl ?_
  refine a_goto 91 dX1_init_132 (by decide) ?_
  refine a_iload_n dX1_init_91 rfl rfl ?_
  refine a_bipush (v := 8) dX1_init_92 (by decide) ?_
  refine a_icmp_gt 135 dX1_init_94 (by decide) (fun c => absurd c (by decide)) (fun _ => ?_)
  refine a_aload_n dX1_init_97 rfl rfl ?_
  refine a_get (v := .ref 3) dX1_init_98 fl_1_11 (cw_l h47 (by decide)) (cw_s h47 (by decide) rfl) (cw_g h47 rfl (by decide +kernel)) ?_
  refine a_iload_n dX1_init_101 rfl rfl ?_
  refine a_iload_n dX1_init_102 rfl rfl ?_
  refine a_iastore dX1_init_103 (cw_l h47 (by decide)) (cw_s h47 (by decide) rfl) (by unfold vp_in; decide +kernel) ?_
  rw [show Int32.toNatClampNeg 8 = 8 from by decide +kernel]
  have h48 : Cw 10 Lj8 fs26 gs8 (wI M47 3 8 8) := cw_I h47 (by decide)
  generalize (wI M47 3 8 8) = M48 at h48 ⊢
  refine a_aload_n dX1_init_104 rfl rfl ?_
  refine a_get (v := .ref 4) dX1_init_105 fl_1_15 (cw_l h48 (by decide)) (cw_s h48 (by decide) rfl) (cw_g h48 rfl (by decide +kernel)) ?_
  refine a_iload_n dX1_init_108 rfl rfl ?_
  refine a_iconst (v := (-1)) dX1_init_109 (by decide) ?_
  refine a_iastore dX1_init_110 (cw_l h48 (by decide)) (cw_s h48 (by decide) rfl) (by unfold vp_in; decide +kernel) ?_
  rw [show Int32.toNatClampNeg 8 = 8 from by decide +kernel]
  have h49 : Cw 10 Lj8 fs27 gs8 (wI M48 4 8 (-1)) := cw_I h48 (by decide)
  generalize (wI M48 4 8 (-1)) = M49 at h49 ⊢
  refine a_aload_n dX1_init_111 rfl rfl ?_
  refine a_get (v := .ref 5) dX1_init_112 fl_1_18 (cw_l h49 (by decide)) (cw_s h49 (by decide) rfl) (cw_g h49 rfl (by decide +kernel)) ?_
  refine a_iload_n dX1_init_115 rfl rfl ?_
  refine a_iconst (v := (-1)) dX1_init_116 (by decide) ?_
  refine a_iastore dX1_init_117 (cw_l h49 (by decide)) (cw_s h49 (by decide) rfl) (by unfold vp_in; decide +kernel) ?_
  rw [show Int32.toNatClampNeg 8 = 8 from by decide +kernel]
  have h50 : Cw 10 Lj8 fs28 gs8 (wI M49 5 8 (-1)) := cw_I h49 (by decide)
  generalize (wI M49 5 8 (-1)) = M50 at h50 ⊢
  refine a_aload_n dX1_init_118 rfl rfl ?_
  refine a_get (v := .ref 6) dX1_init_119 fl_1_21 (cw_l h50 (by decide)) (cw_s h50 (by decide) rfl) (cw_g h50 rfl (by decide +kernel)) ?_
  refine a_iload_n dX1_init_122 rfl rfl ?_
  refine a_iload_n dX1_init_123 rfl rfl ?_
  refine a_callS (As := [.int 8]) (st := [.int 8, .ref 6]) (bc := 0) (bs := 0) (mc := 0) (ms := 0) true dX1_init_124 mw_X10_wordLength rfl (Or.inr ⟨rfl, mn_X1_34⟩) sm_X10_wordLength rfl (by decide) (k_wordLength (fr := fr + 4) 8) (fun v M1 hq => ?_)
  obtain ⟨rfl, hM1⟩ := hq
  rw [hM1]
  clear hM1 M1
  refine a_st (st2 := [.int 2, .int 8, .ref 6]) (by decide +kernel) ?_
  refine a_i2l dX1_init_127 ?_
  refine a_st (st2 := [.long 2, .int 8, .ref 6]) (by decide) ?_
  refine a_lastore dX1_init_128 (cw_l h50 (by decide)) (cw_s h50 (by decide) rfl) (by unfold vp_in; decide +kernel) ?_
  rw [show Int32.toNatClampNeg 8 = 8 from by decide +kernel]
  have h51 : Cw 10 Lj8 fs28 gs9 (wJ M50 6 8 2) := cw_J h50 (by decide)
  generalize (wJ M50 6 8 2) = M51 at h51 ⊢
  refine a_iinc (v := 9) dX1_init_129 rfl (by decide) (Nat.le_of_ble_eq_true rfl) (lv2 := [(1, .int 9), (0, .ref 2)]) rfl ?_
  refine a_goto 91 dX1_init_132 (by decide) ?_
  refine a_iload_n dX1_init_91 rfl rfl ?_
  refine a_bipush (v := 8) dX1_init_92 (by decide) ?_
  refine a_icmp_gt 135 dX1_init_94 (by decide) (fun _ => ?_) (fun c => absurd c (by decide))
  refine a_aload_n dX1_init_135 rfl rfl ?_
  refine a_bipush (v := 9) dX1_init_136 (by decide) ?_
  refine a_putI dX1_init_138 (Or.inl ⟨fl_1_38, Or.inl rfl⟩) rfl (cw_l h51 (by decide)) (cw_s h51 (by decide) rfl) rfl rfl ?_
  have h52 : Cw 10 Lj8 fs29 gs9 (wI M51 2 7 9) := cw_I h51 (by decide)
  generalize (wI M51 2 7 9) = M52 at h52 ⊢
  exact a_vret dX1_init_141 rfl ⟨rfl, h52⟩
set_option maxHeartbeats 4000000 in
set_option maxRecDepth 100000 in
theorem b_X2_init_10_11 {X : Nat × (Nat → Int32)} {fr : Nat} {M : Mem} (h0 : Cw 11 Lj9 fs29 gs9 M) : AM yX2_init cX2_init 1 none true (fr + 5) 3 18 X [.ref 10] M (fun v M1 => v = none ∧ Cw 14 Lj12 fs29 gs9 M1) := by
  refine AM.of true (by decide +kernel) (by first | (intro _; rfl) | (intro h; cases h)) (Nat.le_of_ble_eq_true rfl) ?_
  show AW X (RX2, cX2_init, 1, none, true, true, fr + 5) 3 18 0 [(0, .ref 10)] [] M _
  refine a_aload_n dX2_init_0 rfl rfl ?_
  refine a_objInit dX2_init_1 oi_X2 oi_i oi_c (Nat.le_add_left 1 (fr + 4)) (Nat.le_of_ble_eq_true rfl) ?_
  refine a_aload_n dX2_init_4 rfl rfl ?_
  refine a_bipush (v := 6) dX2_init_5 (by decide) ?_
  refine a_newarray (t := 1) (n := 6) (at_ := .int) (ty := .int) (bc := 2) (bs := 12) (Or.inr (Or.inl ⟨rfl, rfl, rfl⟩)) dX2_init_7 rfl ay_int (by decide) (by decide) (by decide) (by rw [h0.1]; decide) (by rw [h0.1]; decide) ?_
  rw [h0.1]
  have h1 : Cw 12 Lj9 fs29 gs9 (nA M 1 6) := cw_nA h0 rfl
  generalize (nA M 1 6) = M1 at h1 ⊢
  refine a_putR dX2_init_9 (Or.inl ⟨fl_2_9, Or.inr ⟨rfl, rfl, rfl⟩⟩) rfl (cw_l h1 (by decide)) (cw_s h1 (by decide) rfl) ?_
  have h2 : Cw 12 Lj10 fs29 gs9 (wR M1 10 0 (some 11)) := cw_R h1 (by decide) (by decide +kernel)
  generalize (wR M1 10 0 (some 11)) = M2 at h2 ⊢
  refine a_aload_n dX2_init_12 rfl rfl ?_
  refine a_bipush (v := 6) dX2_init_13 (by decide) ?_
  refine a_newarray (t := 1) (n := 6) (at_ := .int) (ty := .int) (bc := 1) (bs := 6) (Or.inr (Or.inl ⟨rfl, rfl, rfl⟩)) dX2_init_15 rfl ay_int (by decide) (by decide) (by decide) (by rw [h2.1]; decide) (by rw [h2.1]; decide) ?_
  rw [h2.1]
  have h3 : Cw 13 Lj10 fs29 gs9 (nA M2 1 6) := cw_nA h2 rfl
  generalize (nA M2 1 6) = M3 at h3 ⊢
  refine a_putR dX2_init_17 (Or.inl ⟨fl_2_15, Or.inr ⟨rfl, rfl, rfl⟩⟩) rfl (cw_l h3 (by decide)) (cw_s h3 (by decide) rfl) ?_
  have h4 : Cw 13 Lj11 fs29 gs9 (wR M3 10 1 (some 12)) := cw_R h3 (by decide) (by decide +kernel)
  generalize (wR M3 10 1 (some 12)) = M4 at h4 ⊢
  refine a_aload_n dX2_init_20 rfl rfl ?_
  refine a_bipush (v := 6) dX2_init_21 (by decide) ?_
  refine a_newarray (t := 1) (n := 6) (at_ := .int) (ty := .int) (bc := 0) (bs := 0) (Or.inr (Or.inl ⟨rfl, rfl, rfl⟩)) dX2_init_23 rfl ay_int (by decide) (by decide) (by decide) (by rw [h4.1]; decide) (by rw [h4.1]; decide) ?_
  rw [h4.1]
  have h5 : Cw 14 Lj11 fs29 gs9 (nA M4 1 6) := cw_nA h4 rfl
  generalize (nA M4 1 6) = M5 at h5 ⊢
  refine a_putR dX2_init_25 (Or.inl ⟨fl_2_18, Or.inr ⟨rfl, rfl, rfl⟩⟩) rfl (cw_l h5 (by decide)) (cw_s h5 (by decide) rfl) ?_
  have h6 : Cw 14 Lj12 fs29 gs9 (wR M5 10 2 (some 13)) := cw_R h5 (by decide) (by decide +kernel)
  generalize (wR M5 10 2 (some 13)) = M6 at h6 ⊢
  exact a_vret dX2_init_28 rfl ⟨rfl, h6⟩
set_option maxHeartbeats 4000000 in
set_option maxRecDepth 100000 in
theorem b_X2_init_16_17 {X : Nat × (Nat → Int32)} {fr : Nat} {M : Mem} (h0 : Cw 17 Lj14 fs29 gs9 M) : AM yX2_init cX2_init 1 none true (fr + 4) 3 18 X [.ref 16] M (fun v M1 => v = none ∧ Cw 20 Lj17 fs29 gs9 M1) := by
  refine AM.of true (by decide +kernel) (by first | (intro _; rfl) | (intro h; cases h)) (Nat.le_of_ble_eq_true rfl) ?_
  show AW X (RX2, cX2_init, 1, none, true, true, fr + 4) 3 18 0 [(0, .ref 16)] [] M _
  refine a_aload_n dX2_init_0 rfl rfl ?_
  refine a_objInit dX2_init_1 oi_X2 oi_i oi_c (Nat.le_add_left 1 (fr + 3)) (Nat.le_of_ble_eq_true rfl) ?_
  refine a_aload_n dX2_init_4 rfl rfl ?_
  refine a_bipush (v := 6) dX2_init_5 (by decide) ?_
  refine a_newarray (t := 1) (n := 6) (at_ := .int) (ty := .int) (bc := 2) (bs := 12) (Or.inr (Or.inl ⟨rfl, rfl, rfl⟩)) dX2_init_7 rfl ay_int (by decide) (by decide) (by decide) (by rw [h0.1]; decide) (by rw [h0.1]; decide) ?_
  rw [h0.1]
  have h1 : Cw 18 Lj14 fs29 gs9 (nA M 1 6) := cw_nA h0 rfl
  generalize (nA M 1 6) = M1 at h1 ⊢
  refine a_putR dX2_init_9 (Or.inl ⟨fl_2_9, Or.inr ⟨rfl, rfl, rfl⟩⟩) rfl (cw_l h1 (by decide)) (cw_s h1 (by decide) rfl) ?_
  have h2 : Cw 18 Lj15 fs29 gs9 (wR M1 16 0 (some 17)) := cw_R h1 (by decide) (by decide +kernel)
  generalize (wR M1 16 0 (some 17)) = M2 at h2 ⊢
  refine a_aload_n dX2_init_12 rfl rfl ?_
  refine a_bipush (v := 6) dX2_init_13 (by decide) ?_
  refine a_newarray (t := 1) (n := 6) (at_ := .int) (ty := .int) (bc := 1) (bs := 6) (Or.inr (Or.inl ⟨rfl, rfl, rfl⟩)) dX2_init_15 rfl ay_int (by decide) (by decide) (by decide) (by rw [h2.1]; decide) (by rw [h2.1]; decide) ?_
  rw [h2.1]
  have h3 : Cw 19 Lj15 fs29 gs9 (nA M2 1 6) := cw_nA h2 rfl
  generalize (nA M2 1 6) = M3 at h3 ⊢
  refine a_putR dX2_init_17 (Or.inl ⟨fl_2_15, Or.inr ⟨rfl, rfl, rfl⟩⟩) rfl (cw_l h3 (by decide)) (cw_s h3 (by decide) rfl) ?_
  have h4 : Cw 19 Lj16 fs29 gs9 (wR M3 16 1 (some 18)) := cw_R h3 (by decide) (by decide +kernel)
  generalize (wR M3 16 1 (some 18)) = M4 at h4 ⊢
  refine a_aload_n dX2_init_20 rfl rfl ?_
  refine a_bipush (v := 6) dX2_init_21 (by decide) ?_
  refine a_newarray (t := 1) (n := 6) (at_ := .int) (ty := .int) (bc := 0) (bs := 0) (Or.inr (Or.inl ⟨rfl, rfl, rfl⟩)) dX2_init_23 rfl ay_int (by decide) (by decide) (by decide) (by rw [h4.1]; decide) (by rw [h4.1]; decide) ?_
  rw [h4.1]
  have h5 : Cw 20 Lj16 fs29 gs9 (nA M4 1 6) := cw_nA h4 rfl
  generalize (nA M4 1 6) = M5 at h5 ⊢
  refine a_putR dX2_init_25 (Or.inl ⟨fl_2_18, Or.inr ⟨rfl, rfl, rfl⟩⟩) rfl (cw_l h5 (by decide)) (cw_s h5 (by decide) rfl) ?_
  have h6 : Cw 20 Lj17 fs29 gs9 (wR M5 16 2 (some 19)) := cw_R h5 (by decide) (by decide +kernel)
  generalize (wR M5 16 2 (some 19)) = M6 at h6 ⊢
  exact a_vret dX2_init_28 rfl ⟨rfl, h6⟩
set_option maxHeartbeats 4000000 in
set_option maxRecDepth 100000 in
theorem b_X6_init_14_15 {X : Nat × (Nat → Int32)} {fr : Nat} {M : Mem} (h0 : Cw 15 Lj13 fs29 gs9 M) : AM yX6_init cX6_init 7 none true (fr + 5) 9 1072 X [.ref 14, .ref 2, .ref 1] M (fun v M1 => v = none ∧ Cw 24 Lj24 fs30 gs31 M1) := by
  refine AM.of true (by decide +kernel) (by first | (intro _; rfl) | (intro h; cases h)) (Nat.le_of_ble_eq_true rfl) ?_
  show AW X (RX6, cX6_init, 7, none, true, true, fr + 5) 9 1072 0 [(0, .ref 14), (1, .ref 2), (2, .ref 1)] [] M _
  refine a_aload_n dX6_init_0 rfl rfl ?_
  refine a_objInit dX6_init_1 oi_X6 oi_i oi_c (Nat.le_add_left 1 (fr + 4)) (Nat.le_of_ble_eq_true rfl) ?_
  refine a_aload_n dX6_init_4 rfl rfl ?_
  refine a_bipush (v := 22) dX6_init_5 (by decide) ?_
  refine a_newarray (t := 2) (n := 22) (at_ := .long) (ty := .long) (bc := 8) (bs := 1050) (Or.inr (Or.inr (Or.inl ⟨rfl, rfl, rfl⟩))) dX6_init_7 rfl ay_long (by decide) (by decide) (by decide) (by rw [h0.1]; decide) (by rw [h0.1]; decide) ?_
  rw [h0.1]
  have h1 : Cw 16 Lj13 fs29 gs9 (nA M 2 22) := cw_nA h0 rfl
  generalize (nA M 2 22) = M1 at h1 ⊢
  refine a_putR dX6_init_9 (Or.inl ⟨fl_6_9, Or.inr ⟨rfl, rfl, rfl⟩⟩) rfl (cw_l h1 (by decide)) (cw_s h1 (by decide) rfl) ?_
  have h2 : Cw 16 Lj14 fs29 gs9 (wR M1 14 2 (some 15)) := cw_R h1 (by decide) (by decide +kernel)
  generalize (wR M1 14 2 (some 15)) = M2 at h2 ⊢
  refine a_aload_n dX6_init_12 rfl rfl ?_
  refine a_new (ci := 2) (bc := 7) (bs := 1046) dX6_init_13 rfl (by decide) cl_X6_15 it_X2 ini_X2 (by rw [h2.1]; decide) (by rw [h2.1]; decide) ?_
  rw [h2.1]
  have h3 : Cw 17 Lj14 fs29 gs9 (nO M2 2) := cw_nO h2 rfl
  generalize (nO M2 2) = M3 at h3 ⊢
  refine a_dup dX6_init_16 rfl ?_
  refine a_callI (As := []) (st := [.ref 16, .ref 14]) (a := 16) (bc := 4) (bs := 1028) (mc := 3) (ms := 18) true dX6_init_17 mw_X2_init rfl (Or.inr ⟨rfl, mn_X6_17⟩) im_X2_init rfl (cw_l h3 (by decide)) rfl (by decide) (b_X2_init_16_17 (fr := fr) h3) (fun v M4 hq => ?_)
  obtain ⟨rfl, h4⟩ := hq
  refine a_putR dX6_init_20 (Or.inl ⟨fl_6_18, Or.inr ⟨rfl, rfl, rfl⟩⟩) rfl (cw_l h4 (by decide)) (cw_s h4 (by decide) rfl) ?_
  have h5 : Cw 20 Lj18 fs29 gs9 (wR M4 14 3 (some 16)) := cw_R h4 (by decide) (by decide +kernel)
  generalize (wR M4 14 3 (some 16)) = M5 at h5 ⊢
  refine a_aload_n dX6_init_23 rfl rfl ?_
  refine a_bipush (v := 30) dX6_init_24 (by decide) ?_
  refine a_newarray (t := 1) (n := 30) (at_ := .int) (ty := .int) (bc := 3) (bs := 998) (Or.inr (Or.inl ⟨rfl, rfl, rfl⟩)) dX6_init_26 rfl ay_int (by decide) (by decide) (by decide) (by rw [h5.1]; decide) (by rw [h5.1]; decide) ?_
  rw [h5.1]
  have h6 : Cw 21 Lj18 fs29 gs9 (nA M5 1 30) := cw_nA h5 rfl
  generalize (nA M5 1 30) = M6 at h6 ⊢
  refine a_putR dX6_init_28 (Or.inl ⟨fl_6_22, Or.inr ⟨rfl, rfl, rfl⟩⟩) rfl (cw_l h6 (by decide)) (cw_s h6 (by decide) rfl) ?_
  have h7 : Cw 21 Lj19 fs29 gs9 (wR M6 14 4 (some 20)) := cw_R h6 (by decide) (by decide +kernel)
  generalize (wR M6 14 4 (some 20)) = M7 at h7 ⊢
  refine a_aload_n dX6_init_31 rfl rfl ?_
  refine a_sipush (v := 854) dX6_init_32 (by decide) ?_
  refine a_newarray (t := 1) (n := 854) (at_ := .int) (ty := .int) (bc := 2) (bs := 144) (Or.inr (Or.inl ⟨rfl, rfl, rfl⟩)) dX6_init_35 rfl ay_int (by decide) (by decide) (by decide) (by rw [h7.1]; decide) (by rw [h7.1]; decide) ?_
  rw [h7.1]
  have h8 : Cw 22 Lj19 fs29 gs9 (nA M7 1 854) := cw_nA h7 rfl
  generalize (nA M7 1 854) = M8 at h8 ⊢
  refine a_putR dX6_init_37 (Or.inl ⟨fl_6_26, Or.inr ⟨rfl, rfl, rfl⟩⟩) rfl (cw_l h8 (by decide)) (cw_s h8 (by decide) rfl) ?_
  have h9 : Cw 22 Lj20 fs29 gs9 (wR M8 14 5 (some 21)) := cw_R h8 (by decide) (by decide +kernel)
  generalize (wR M8 14 5 (some 21)) = M9 at h9 ⊢
  refine a_aload_n dX6_init_40 rfl rfl ?_
  refine a_bipush (v := 24) dX6_init_41 (by decide) ?_
  refine a_newarray (t := 1) (n := 24) (at_ := .int) (ty := .int) (bc := 1) (bs := 120) (Or.inr (Or.inl ⟨rfl, rfl, rfl⟩)) dX6_init_43 rfl ay_int (by decide) (by decide) (by decide) (by rw [h9.1]; decide) (by rw [h9.1]; decide) ?_
  rw [h9.1]
  have h10 : Cw 23 Lj20 fs29 gs9 (nA M9 1 24) := cw_nA h9 rfl
  generalize (nA M9 1 24) = M10 at h10 ⊢
  refine a_putR dX6_init_45 (Or.inl ⟨fl_6_29, Or.inr ⟨rfl, rfl, rfl⟩⟩) rfl (cw_l h10 (by decide)) (cw_s h10 (by decide) rfl) ?_
  have h11 : Cw 23 Lj21 fs29 gs9 (wR M10 14 7 (some 22)) := cw_R h10 (by decide) (by decide +kernel)
  generalize (wR M10 14 7 (some 22)) = M11 at h11 ⊢
  refine a_aload_n dX6_init_48 rfl rfl ?_
  refine a_bipush (v := 120) dX6_init_49 (by decide) ?_
  refine a_newarray (t := 1) (n := 120) (at_ := .int) (ty := .int) (bc := 0) (bs := 0) (Or.inr (Or.inl ⟨rfl, rfl, rfl⟩)) dX6_init_51 rfl ay_int (by decide) (by decide) (by decide) (by rw [h11.1]; decide) (by rw [h11.1]; decide) ?_
  rw [h11.1]
  have h12 : Cw 24 Lj21 fs29 gs9 (nA M11 1 120) := cw_nA h11 rfl
  generalize (nA M11 1 120) = M12 at h12 ⊢
  refine a_putR dX6_init_53 (Or.inl ⟨fl_6_32, Or.inr ⟨rfl, rfl, rfl⟩⟩) rfl (cw_l h12 (by decide)) (cw_s h12 (by decide) rfl) ?_
  have h13 : Cw 24 Lj22 fs29 gs9 (wR M12 14 9 (some 23)) := cw_R h12 (by decide) (by decide +kernel)
  generalize (wR M12 14 9 (some 23)) = M13 at h13 ⊢
  refine a_aload_n dX6_init_56 rfl rfl ?_
  refine a_iconst (v := (-1)) dX6_init_57 (by decide) ?_
  refine a_putI dX6_init_58 (Or.inl ⟨fl_6_35, Or.inl rfl⟩) rfl (cw_l h13 (by decide)) (cw_s h13 (by decide) rfl) rfl rfl ?_
  have h14 : Cw 24 Lj22 fs30 gs9 (wI M13 14 18 (-1)) := cw_I h13 (by decide)
  generalize (wI M13 14 18 (-1)) = M14 at h14 ⊢
  refine a_aload_n dX6_init_61 rfl rfl ?_
  refine a_aload_n dX6_init_62 rfl rfl ?_
  refine a_putR dX6_init_63 (Or.inl ⟨fl_6_39, Or.inr ⟨rfl, rfl, rfl⟩⟩) rfl (cw_l h14 (by decide)) (cw_s h14 (by decide) rfl) ?_
  have h15 : Cw 24 Lj23 fs30 gs9 (wR M14 14 0 (some 2)) := cw_R h14 (by decide) (by decide +kernel)
  generalize (wR M14 14 0 (some 2)) = M15 at h15 ⊢
  refine a_aload_n dX6_init_66 rfl rfl ?_
  refine a_aload_n dX6_init_67 rfl rfl ?_
  refine a_putR dX6_init_68 (Or.inl ⟨fl_6_43, Or.inr ⟨rfl, rfl, rfl⟩⟩) rfl (cw_l h15 (by decide)) (cw_s h15 (by decide) rfl) ?_
  have h16 : Cw 24 Lj24 fs30 gs9 (wR M15 14 1 (some 1)) := cw_R h15 (by decide) (by decide +kernel)
  generalize (wR M15 14 1 (some 1)) = M16 at h16 ⊢
  refine a_iconst (v := 0) dX6_init_71 (by decide) ?_
  refine a_istore_n dX6_init_72 rfl (Nat.le_of_ble_eq_true rfl) (lv2 := [(3, .int 0), (0, .ref 14), (1, .ref 2), (2, .ref 1)]) rfl ?_
  refine a_iload_n dX6_init_73 rfl rfl ?_
  refine a_bipush (v := 22) dX6_init_74 (by decide) ?_
  refine a_icmp_ge 129 dX6_init_76 (by decide) (fun c => absurd c (by decide)) (fun _ => ?_)
  refine a_lconst (v := 0) dX6_init_79 (by decide) ?_
  refine a_lstore dX6_init_80 (Nat.le_of_ble_eq_true rfl) (lv2 := [(4, .long 0), (3, .int 0), (0, .ref 14), (1, .ref 2), (2, .ref 1)]) rfl ?_
  refine a_iconst (v := 0) dX6_init_82 (by decide) ?_
  refine a_istore dX6_init_83 (Nat.le_of_ble_eq_true rfl) (lv2 := [(6, .int 0), (4, .long 0), (3, .int 0), (0, .ref 14), (1, .ref 2), (2, .ref 1)]) rfl ?_
  refine a_iload dX6_init_85 rfl ?_
  refine a_iload_n dX6_init_87 rfl rfl ?_
  refine a_callS (As := [.int 0]) (st := [.int 0]) (bc := 0) (bs := 0) (mc := 0) (ms := 0) true dX6_init_88 mw_X10_wordLength rfl (Or.inr ⟨rfl, mn_X6_46⟩) sm_X10_wordLength rfl (by decide) (k_wordLength (fr := fr + 4) 0) (fun v M1 hq => ?_)
  obtain ⟨rfl, hM1⟩ := hq
  rw [hM1]
  clear hM1 M1
  refine a_st (st2 := [.int 1, .int 0]) (by decide +kernel) ?_
  refine a_icmp_ge 115 dX6_init_91 (by decide) (fun c => absurd c (by decide)) (fun _ => ?_)
  refine a_lload dX6_init_94 rfl ?_
  refine a_bipush (v := 8) dX6_init_96 (by decide) ?_
  refine a_lshl dX6_init_98 ?_
  refine a_st (st2 := [.long 0]) (by decide) ?_
  refine a_iload_n dX6_init_99 rfl rfl ?_
  refine a_iload dX6_init_100 rfl ?_
  refine a_callS (As := [.int 0, .int 0]) (st := [.long 0]) (bc := 0) (bs := 0) (mc := 0) (ms := 0) true dX6_init_102 mw_X10_wordLetter rfl (Or.inr ⟨rfl, mn_X6_50⟩) sm_X10_wordLetter rfl (by decide) (k_wordLetter (fr := fr) (c := 0) (i := 0) (by decide) (by decide) (by decide) (by decide +kernel) (by unfold vp_in; decide +kernel)) (fun v M1 hq => ?_)
  obtain ⟨rfl, hM1⟩ := hq
  rw [hM1]
  clear hM1 M1
  refine a_st (st2 := [.int 112, .long 0]) (by decide +kernel) ?_
  refine a_i2l dX6_init_105 ?_
  refine a_st (st2 := [.long 112, .long 0]) (by decide) ?_
  refine a_lor dX6_init_106 ?_
  refine a_st (st2 := [.long 112]) (by decide) ?_
  refine a_lstore dX6_init_107 (Nat.le_of_ble_eq_true rfl) (lv2 := [(4, .long 112), (6, .int 0), (3, .int 0), (0, .ref 14), (1, .ref 2), (2, .ref 1)]) rfl ?_
  refine a_iinc (v := 1) dX6_init_109 rfl (by decide) (Nat.le_of_ble_eq_true rfl) (lv2 := [(6, .int 1), (4, .long 112), (3, .int 0), (0, .ref 14), (1, .ref 2), (2, .ref 1)]) rfl ?_
  refine a_goto 85 dX6_init_112 (by decide) ?_
  refine a_iload dX6_init_85 rfl ?_
  refine a_iload_n dX6_init_87 rfl rfl ?_
  refine a_callS (As := [.int 0]) (st := [.int 1]) (bc := 0) (bs := 0) (mc := 0) (ms := 0) true dX6_init_88 mw_X10_wordLength rfl (Or.inr ⟨rfl, mn_X6_46⟩) sm_X10_wordLength rfl (by decide) (k_wordLength (fr := fr + 4) 0) (fun v M1 hq => ?_)
  obtain ⟨rfl, hM1⟩ := hq
  rw [hM1]
  clear hM1 M1
  refine a_st (st2 := [.int 1, .int 1]) (by decide +kernel) ?_
  refine a_icmp_ge 115 dX6_init_91 (by decide) (fun _ => ?_) (fun c => absurd c (by decide))
  refine a_aload_n dX6_init_115 rfl rfl ?_
  refine a_get (v := .ref 15) dX6_init_116 fl_6_9 (cw_l h16 (by decide)) (cw_s h16 (by decide) rfl) (cw_g h16 rfl (by decide +kernel)) ?_
  refine a_iload_n dX6_init_119 rfl rfl ?_
  refine a_lload dX6_init_120 rfl ?_
  refine a_lastore dX6_init_122 (cw_l h16 (by decide)) (cw_s h16 (by decide) rfl) (by unfold vp_in; decide +kernel) ?_
  rw [show Int32.toNatClampNeg 0 = 0 from by decide +kernel]
  have h17 : Cw 24 Lj24 fs30 gs10 (wJ M16 15 0 112) := cw_J h16 (by decide)
  generalize (wJ M16 15 0 112) = M17 at h17 ⊢
  refine a_iinc (v := 1) dX6_init_123 rfl (by decide) (Nat.le_of_ble_eq_true rfl) (lv2 := [(3, .int 1), (6, .int 1), (4, .long 112), (0, .ref 14), (1, .ref 2), (2, .ref 1)]) rfl ?_
  refine a_goto 73 dX6_init_126 (by decide) ?_
  refine a_iload_n dX6_init_73 rfl rfl ?_
  refine a_bipush (v := 22) dX6_init_74 (by decide) ?_
  refine a_icmp_ge 129 dX6_init_76 (by decide) (fun c => absurd c (by decide)) (fun _ => ?_)
  refine a_lconst (v := 0) dX6_init_79 (by decide) ?_
  refine a_lstore dX6_init_80 (Nat.le_of_ble_eq_true rfl) (lv2 := [(4, .long 0), (3, .int 1), (6, .int 1), (0, .ref 14), (1, .ref 2), (2, .ref 1)]) rfl ?_
  refine a_iconst (v := 0) dX6_init_82 (by decide) ?_
  refine a_istore dX6_init_83 (Nat.le_of_ble_eq_true rfl) (lv2 := [(6, .int 0), (4, .long 0), (3, .int 1), (0, .ref 14), (1, .ref 2), (2, .ref 1)]) rfl ?_
  refine a_iload dX6_init_85 rfl ?_
  refine a_iload_n dX6_init_87 rfl rfl ?_
  refine a_callS (As := [.int 1]) (st := [.int 0]) (bc := 0) (bs := 0) (mc := 0) (ms := 0) true dX6_init_88 mw_X10_wordLength rfl (Or.inr ⟨rfl, mn_X6_46⟩) sm_X10_wordLength rfl (by decide) (k_wordLength (fr := fr + 4) 1) (fun v M1 hq => ?_)
  obtain ⟨rfl, hM1⟩ := hq
  rw [hM1]
  clear hM1 M1
  refine a_st (st2 := [.int 1, .int 0]) (by decide +kernel) ?_
  refine a_icmp_ge 115 dX6_init_91 (by decide) (fun c => absurd c (by decide)) (fun _ => ?_)
  refine a_lload dX6_init_94 rfl ?_
  refine a_bipush (v := 8) dX6_init_96 (by decide) ?_
  refine a_lshl dX6_init_98 ?_
  refine a_st (st2 := [.long 0]) (by decide) ?_
  refine a_iload_n dX6_init_99 rfl rfl ?_
  refine a_iload dX6_init_100 rfl ?_
  refine a_callS (As := [.int 1, .int 0]) (st := [.long 0]) (bc := 0) (bs := 0) (mc := 0) (ms := 0) true dX6_init_102 mw_X10_wordLetter rfl (Or.inr ⟨rfl, mn_X6_50⟩) sm_X10_wordLetter rfl (by decide) (k_wordLetter (fr := fr) (c := 1) (i := 0) (by decide) (by decide) (by decide) (by decide +kernel) (by unfold vp_in; decide +kernel)) (fun v M1 hq => ?_)
  obtain ⟨rfl, hM1⟩ := hq
  rw [hM1]
  clear hM1 M1
  refine a_st (st2 := [.int 113, .long 0]) (by decide +kernel) ?_
  refine a_i2l dX6_init_105 ?_
  refine a_st (st2 := [.long 113, .long 0]) (by decide) ?_
  refine a_lor dX6_init_106 ?_
  refine a_st (st2 := [.long 113]) (by decide) ?_
  refine a_lstore dX6_init_107 (Nat.le_of_ble_eq_true rfl) (lv2 := [(4, .long 113), (6, .int 0), (3, .int 1), (0, .ref 14), (1, .ref 2), (2, .ref 1)]) rfl ?_
  refine a_iinc (v := 1) dX6_init_109 rfl (by decide) (Nat.le_of_ble_eq_true rfl) (lv2 := [(6, .int 1), (4, .long 113), (3, .int 1), (0, .ref 14), (1, .ref 2), (2, .ref 1)]) rfl ?_
  refine a_goto 85 dX6_init_112 (by decide) ?_
  refine a_iload dX6_init_85 rfl ?_
  refine a_iload_n dX6_init_87 rfl rfl ?_
  refine a_callS (As := [.int 1]) (st := [.int 1]) (bc := 0) (bs := 0) (mc := 0) (ms := 0) true dX6_init_88 mw_X10_wordLength rfl (Or.inr ⟨rfl, mn_X6_46⟩) sm_X10_wordLength rfl (by decide) (k_wordLength (fr := fr + 4) 1) (fun v M1 hq => ?_)
  obtain ⟨rfl, hM1⟩ := hq
  rw [hM1]
  clear hM1 M1
  refine a_st (st2 := [.int 1, .int 1]) (by decide +kernel) ?_
  refine a_icmp_ge 115 dX6_init_91 (by decide) (fun _ => ?_) (fun c => absurd c (by decide))
  refine a_aload_n dX6_init_115 rfl rfl ?_
  refine a_get (v := .ref 15) dX6_init_116 fl_6_9 (cw_l h17 (by decide)) (cw_s h17 (by decide) rfl) (cw_g h17 rfl (by decide +kernel)) ?_
  refine a_iload_n dX6_init_119 rfl rfl ?_
  refine a_lload dX6_init_120 rfl ?_
  refine a_lastore dX6_init_122 (cw_l h17 (by decide)) (cw_s h17 (by decide) rfl) (by unfold vp_in; decide +kernel) ?_
  rw [show Int32.toNatClampNeg 1 = 1 from by decide +kernel]
  have h18 : Cw 24 Lj24 fs30 gs11 (wJ M17 15 1 113) := cw_J h17 (by decide)
  generalize (wJ M17 15 1 113) = M18 at h18 ⊢
  refine a_iinc (v := 2) dX6_init_123 rfl (by decide) (Nat.le_of_ble_eq_true rfl) (lv2 := [(3, .int 2), (6, .int 1), (4, .long 113), (0, .ref 14), (1, .ref 2), (2, .ref 1)]) rfl ?_
  refine a_goto 73 dX6_init_126 (by decide) ?_
  refine a_iload_n dX6_init_73 rfl rfl ?_
  refine a_bipush (v := 22) dX6_init_74 (by decide) ?_
  refine a_icmp_ge 129 dX6_init_76 (by decide) (fun c => absurd c (by decide)) (fun _ => ?_)
  refine a_lconst (v := 0) dX6_init_79 (by decide) ?_
  refine a_lstore dX6_init_80 (Nat.le_of_ble_eq_true rfl) (lv2 := [(4, .long 0), (3, .int 2), (6, .int 1), (0, .ref 14), (1, .ref 2), (2, .ref 1)]) rfl ?_
  refine a_iconst (v := 0) dX6_init_82 (by decide) ?_
  refine a_istore dX6_init_83 (Nat.le_of_ble_eq_true rfl) (lv2 := [(6, .int 0), (4, .long 0), (3, .int 2), (0, .ref 14), (1, .ref 2), (2, .ref 1)]) rfl ?_
  refine a_iload dX6_init_85 rfl ?_
  refine a_iload_n dX6_init_87 rfl rfl ?_
  refine a_callS (As := [.int 2]) (st := [.int 0]) (bc := 0) (bs := 0) (mc := 0) (ms := 0) true dX6_init_88 mw_X10_wordLength rfl (Or.inr ⟨rfl, mn_X6_46⟩) sm_X10_wordLength rfl (by decide) (k_wordLength (fr := fr + 4) 2) (fun v M1 hq => ?_)
  obtain ⟨rfl, hM1⟩ := hq
  rw [hM1]
  clear hM1 M1
  refine a_st (st2 := [.int 1, .int 0]) (by decide +kernel) ?_
  refine a_icmp_ge 115 dX6_init_91 (by decide) (fun c => absurd c (by decide)) (fun _ => ?_)
  refine a_lload dX6_init_94 rfl ?_
  refine a_bipush (v := 8) dX6_init_96 (by decide) ?_
  refine a_lshl dX6_init_98 ?_
  refine a_st (st2 := [.long 0]) (by decide) ?_
  refine a_iload_n dX6_init_99 rfl rfl ?_
  refine a_iload dX6_init_100 rfl ?_
  refine a_callS (As := [.int 2, .int 0]) (st := [.long 0]) (bc := 0) (bs := 0) (mc := 0) (ms := 0) true dX6_init_102 mw_X10_wordLetter rfl (Or.inr ⟨rfl, mn_X6_50⟩) sm_X10_wordLetter rfl (by decide) (k_wordLetter (fr := fr) (c := 2) (i := 0) (by decide) (by decide) (by decide) (by decide +kernel) (by unfold vp_in; decide +kernel)) (fun v M1 hq => ?_)
  obtain ⟨rfl, hM1⟩ := hq
  rw [hM1]
  clear hM1 M1
  refine a_st (st2 := [.int 114, .long 0]) (by decide +kernel) ?_
  refine a_i2l dX6_init_105 ?_
  refine a_st (st2 := [.long 114, .long 0]) (by decide) ?_
  refine a_lor dX6_init_106 ?_
  refine a_st (st2 := [.long 114]) (by decide) ?_
  refine a_lstore dX6_init_107 (Nat.le_of_ble_eq_true rfl) (lv2 := [(4, .long 114), (6, .int 0), (3, .int 2), (0, .ref 14), (1, .ref 2), (2, .ref 1)]) rfl ?_
  refine a_iinc (v := 1) dX6_init_109 rfl (by decide) (Nat.le_of_ble_eq_true rfl) (lv2 := [(6, .int 1), (4, .long 114), (3, .int 2), (0, .ref 14), (1, .ref 2), (2, .ref 1)]) rfl ?_
  refine a_goto 85 dX6_init_112 (by decide) ?_
  refine a_iload dX6_init_85 rfl ?_
  refine a_iload_n dX6_init_87 rfl rfl ?_
  refine a_callS (As := [.int 2]) (st := [.int 1]) (bc := 0) (bs := 0) (mc := 0) (ms := 0) true dX6_init_88 mw_X10_wordLength rfl (Or.inr ⟨rfl, mn_X6_46⟩) sm_X10_wordLength rfl (by decide) (k_wordLength (fr := fr + 4) 2) (fun v M1 hq => ?_)
  obtain ⟨rfl, hM1⟩ := hq
  rw [hM1]
  clear hM1 M1
  refine a_st (st2 := [.int 1, .int 1]) (by decide +kernel) ?_
  refine a_icmp_ge 115 dX6_init_91 (by decide) (fun _ => ?_) (fun c => absurd c (by decide))
  refine a_aload_n dX6_init_115 rfl rfl ?_
  refine a_get (v := .ref 15) dX6_init_116 fl_6_9 (cw_l h18 (by decide)) (cw_s h18 (by decide) rfl) (cw_g h18 rfl (by decide +kernel)) ?_
  refine a_iload_n dX6_init_119 rfl rfl ?_
  refine a_lload dX6_init_120 rfl ?_
  refine a_lastore dX6_init_122 (cw_l h18 (by decide)) (cw_s h18 (by decide) rfl) (by unfold vp_in; decide +kernel) ?_
  rw [show Int32.toNatClampNeg 2 = 2 from by decide +kernel]
  have h19 : Cw 24 Lj24 fs30 gs12 (wJ M18 15 2 114) := cw_J h18 (by decide)
  generalize (wJ M18 15 2 114) = M19 at h19 ⊢
  refine a_iinc (v := 3) dX6_init_123 rfl (by decide) (Nat.le_of_ble_eq_true rfl) (lv2 := [(3, .int 3), (6, .int 1), (4, .long 114), (0, .ref 14), (1, .ref 2), (2, .ref 1)]) rfl ?_
  refine a_goto 73 dX6_init_126 (by decide) ?_
  refine a_iload_n dX6_init_73 rfl rfl ?_
  refine a_bipush (v := 22) dX6_init_74 (by decide) ?_
  refine a_icmp_ge 129 dX6_init_76 (by decide) (fun c => absurd c (by decide)) (fun _ => ?_)
  refine a_lconst (v := 0) dX6_init_79 (by decide) ?_
  refine a_lstore dX6_init_80 (Nat.le_of_ble_eq_true rfl) (lv2 := [(4, .long 0), (3, .int 3), (6, .int 1), (0, .ref 14), (1, .ref 2), (2, .ref 1)]) rfl ?_
  refine a_iconst (v := 0) dX6_init_82 (by decide) ?_
  refine a_istore dX6_init_83 (Nat.le_of_ble_eq_true rfl) (lv2 := [(6, .int 0), (4, .long 0), (3, .int 3), (0, .ref 14), (1, .ref 2), (2, .ref 1)]) rfl ?_
  refine a_iload dX6_init_85 rfl ?_
  refine a_iload_n dX6_init_87 rfl rfl ?_
  refine a_callS (As := [.int 3]) (st := [.int 0]) (bc := 0) (bs := 0) (mc := 0) (ms := 0) true dX6_init_88 mw_X10_wordLength rfl (Or.inr ⟨rfl, mn_X6_46⟩) sm_X10_wordLength rfl (by decide) (k_wordLength (fr := fr + 4) 3) (fun v M1 hq => ?_)
  obtain ⟨rfl, hM1⟩ := hq
  rw [hM1]
  clear hM1 M1
  refine a_st (st2 := [.int 1, .int 0]) (by decide +kernel) ?_
  refine a_icmp_ge 115 dX6_init_91 (by decide) (fun c => absurd c (by decide)) (fun _ => ?_)
  refine a_lload dX6_init_94 rfl ?_
  refine a_bipush (v := 8) dX6_init_96 (by decide) ?_
  refine a_lshl dX6_init_98 ?_
  refine a_st (st2 := [.long 0]) (by decide) ?_
  refine a_iload_n dX6_init_99 rfl rfl ?_
  refine a_iload dX6_init_100 rfl ?_
  refine a_callS (As := [.int 3, .int 0]) (st := [.long 0]) (bc := 0) (bs := 0) (mc := 0) (ms := 0) true dX6_init_102 mw_X10_wordLetter rfl (Or.inr ⟨rfl, mn_X6_50⟩) sm_X10_wordLetter rfl (by decide) (k_wordLetter (fr := fr) (c := 3) (i := 0) (by decide) (by decide) (by decide) (by decide +kernel) (by unfold vp_in; decide +kernel)) (fun v M1 hq => ?_)
  obtain ⟨rfl, hM1⟩ := hq
  rw [hM1]
  clear hM1 M1
  refine a_st (st2 := [.int 115, .long 0]) (by decide +kernel) ?_
  refine a_i2l dX6_init_105 ?_
  refine a_st (st2 := [.long 115, .long 0]) (by decide) ?_
  refine a_lor dX6_init_106 ?_
  refine a_st (st2 := [.long 115]) (by decide) ?_
  refine a_lstore dX6_init_107 (Nat.le_of_ble_eq_true rfl) (lv2 := [(4, .long 115), (6, .int 0), (3, .int 3), (0, .ref 14), (1, .ref 2), (2, .ref 1)]) rfl ?_
  refine a_iinc (v := 1) dX6_init_109 rfl (by decide) (Nat.le_of_ble_eq_true rfl) (lv2 := [(6, .int 1), (4, .long 115), (3, .int 3), (0, .ref 14), (1, .ref 2), (2, .ref 1)]) rfl ?_
  refine a_goto 85 dX6_init_112 (by decide) ?_
  refine a_iload dX6_init_85 rfl ?_
  refine a_iload_n dX6_init_87 rfl rfl ?_
  refine a_callS (As := [.int 3]) (st := [.int 1]) (bc := 0) (bs := 0) (mc := 0) (ms := 0) true dX6_init_88 mw_X10_wordLength rfl (Or.inr ⟨rfl, mn_X6_46⟩) sm_X10_wordLength rfl (by decide) (k_wordLength (fr := fr + 4) 3) (fun v M1 hq => ?_)
  obtain ⟨rfl, hM1⟩ := hq
  rw [hM1]
  clear hM1 M1
  refine a_st (st2 := [.int 1, .int 1]) (by decide +kernel) ?_
  refine a_icmp_ge 115 dX6_init_91 (by decide) (fun _ => ?_) (fun c => absurd c (by decide))
  refine a_aload_n dX6_init_115 rfl rfl ?_
  refine a_get (v := .ref 15) dX6_init_116 fl_6_9 (cw_l h19 (by decide)) (cw_s h19 (by decide) rfl) (cw_g h19 rfl (by decide +kernel)) ?_
  refine a_iload_n dX6_init_119 rfl rfl ?_
  refine a_lload dX6_init_120 rfl ?_
  refine a_lastore dX6_init_122 (cw_l h19 (by decide)) (cw_s h19 (by decide) rfl) (by unfold vp_in; decide +kernel) ?_
  rw [show Int32.toNatClampNeg 3 = 3 from by decide +kernel]
  have h20 : Cw 24 Lj24 fs30 gs13 (wJ M19 15 3 115) := cw_J h19 (by decide)
  generalize (wJ M19 15 3 115) = M20 at h20 ⊢
  refine a_iinc (v := 4) dX6_init_123 rfl (by decide) (Nat.le_of_ble_eq_true rfl) (lv2 := [(3, .int 4), (6, .int 1), (4, .long 115), (0, .ref 14), (1, .ref 2), (2, .ref 1)]) rfl ?_
  refine a_goto 73 dX6_init_126 (by decide) ?_
  refine a_iload_n dX6_init_73 rfl rfl ?_
  refine a_bipush (v := 22) dX6_init_74 (by decide) ?_
  refine a_icmp_ge 129 dX6_init_76 (by decide) (fun c => absurd c (by decide)) (fun _ => ?_)
  refine a_lconst (v := 0) dX6_init_79 (by decide) ?_
  refine a_lstore dX6_init_80 (Nat.le_of_ble_eq_true rfl) (lv2 := [(4, .long 0), (3, .int 4), (6, .int 1), (0, .ref 14), (1, .ref 2), (2, .ref 1)]) rfl ?_
  refine a_iconst (v := 0) dX6_init_82 (by decide) ?_
  refine a_istore dX6_init_83 (Nat.le_of_ble_eq_true rfl) (lv2 := [(6, .int 0), (4, .long 0), (3, .int 4), (0, .ref 14), (1, .ref 2), (2, .ref 1)]) rfl ?_
  refine a_iload dX6_init_85 rfl ?_
  refine a_iload_n dX6_init_87 rfl rfl ?_
  refine a_callS (As := [.int 4]) (st := [.int 0]) (bc := 0) (bs := 0) (mc := 0) (ms := 0) true dX6_init_88 mw_X10_wordLength rfl (Or.inr ⟨rfl, mn_X6_46⟩) sm_X10_wordLength rfl (by decide) (k_wordLength (fr := fr + 4) 4) (fun v M1 hq => ?_)
  obtain ⟨rfl, hM1⟩ := hq
  rw [hM1]
  clear hM1 M1
  refine a_st (st2 := [.int 1, .int 0]) (by decide +kernel) ?_
  refine a_icmp_ge 115 dX6_init_91 (by decide) (fun c => absurd c (by decide)) (fun _ => ?_)
  refine a_lload dX6_init_94 rfl ?_
  refine a_bipush (v := 8) dX6_init_96 (by decide) ?_
  refine a_lshl dX6_init_98 ?_
  refine a_st (st2 := [.long 0]) (by decide) ?_
  refine a_iload_n dX6_init_99 rfl rfl ?_
  refine a_iload dX6_init_100 rfl ?_
  refine a_callS (As := [.int 4, .int 0]) (st := [.long 0]) (bc := 0) (bs := 0) (mc := 0) (ms := 0) true dX6_init_102 mw_X10_wordLetter rfl (Or.inr ⟨rfl, mn_X6_50⟩) sm_X10_wordLetter rfl (by decide) (k_wordLetter (fr := fr) (c := 4) (i := 0) (by decide) (by decide) (by decide) (by decide +kernel) (by unfold vp_in; decide +kernel)) (fun v M1 hq => ?_)
  obtain ⟨rfl, hM1⟩ := hq
  rw [hM1]
  clear hM1 M1
  refine a_st (st2 := [.int 116, .long 0]) (by decide +kernel) ?_
  refine a_i2l dX6_init_105 ?_
  refine a_st (st2 := [.long 116, .long 0]) (by decide) ?_
  refine a_lor dX6_init_106 ?_
  refine a_st (st2 := [.long 116]) (by decide) ?_
  refine a_lstore dX6_init_107 (Nat.le_of_ble_eq_true rfl) (lv2 := [(4, .long 116), (6, .int 0), (3, .int 4), (0, .ref 14), (1, .ref 2), (2, .ref 1)]) rfl ?_
  refine a_iinc (v := 1) dX6_init_109 rfl (by decide) (Nat.le_of_ble_eq_true rfl) (lv2 := [(6, .int 1), (4, .long 116), (3, .int 4), (0, .ref 14), (1, .ref 2), (2, .ref 1)]) rfl ?_
  refine a_goto 85 dX6_init_112 (by decide) ?_
  refine a_iload dX6_init_85 rfl ?_
  refine a_iload_n dX6_init_87 rfl rfl ?_
  refine a_callS (As := [.int 4]) (st := [.int 1]) (bc := 0) (bs := 0) (mc := 0) (ms := 0) true dX6_init_88 mw_X10_wordLength rfl (Or.inr ⟨rfl, mn_X6_46⟩) sm_X10_wordLength rfl (by decide) (k_wordLength (fr := fr + 4) 4) (fun v M1 hq => ?_)
  obtain ⟨rfl, hM1⟩ := hq
  rw [hM1]
  clear hM1 M1
  refine a_st (st2 := [.int 1, .int 1]) (by decide +kernel) ?_
  refine a_icmp_ge 115 dX6_init_91 (by decide) (fun _ => ?_) (fun c => absurd c (by decide))
  refine a_aload_n dX6_init_115 rfl rfl ?_
  refine a_get (v := .ref 15) dX6_init_116 fl_6_9 (cw_l h20 (by decide)) (cw_s h20 (by decide) rfl) (cw_g h20 rfl (by decide +kernel)) ?_
  refine a_iload_n dX6_init_119 rfl rfl ?_
  refine a_lload dX6_init_120 rfl ?_
  refine a_lastore dX6_init_122 (cw_l h20 (by decide)) (cw_s h20 (by decide) rfl) (by unfold vp_in; decide +kernel) ?_
  rw [show Int32.toNatClampNeg 4 = 4 from by decide +kernel]
  have h21 : Cw 24 Lj24 fs30 gs14 (wJ M20 15 4 116) := cw_J h20 (by decide)
  generalize (wJ M20 15 4 116) = M21 at h21 ⊢
  refine a_iinc (v := 5) dX6_init_123 rfl (by decide) (Nat.le_of_ble_eq_true rfl) (lv2 := [(3, .int 5), (6, .int 1), (4, .long 116), (0, .ref 14), (1, .ref 2), (2, .ref 1)]) rfl ?_
  refine a_goto 73 dX6_init_126 (by decide) ?_
  refine a_iload_n dX6_init_73 rfl rfl ?_
  refine a_bipush (v := 22) dX6_init_74 (by decide) ?_
  refine a_icmp_ge 129 dX6_init_76 (by decide) (fun c => absurd c (by decide)) (fun _ => ?_)
  refine a_lconst (v := 0) dX6_init_79 (by decide) ?_
  refine a_lstore dX6_init_80 (Nat.le_of_ble_eq_true rfl) (lv2 := [(4, .long 0), (3, .int 5), (6, .int 1), (0, .ref 14), (1, .ref 2), (2, .ref 1)]) rfl ?_
  refine a_iconst (v := 0) dX6_init_82 (by decide) ?_
  refine a_istore dX6_init_83 (Nat.le_of_ble_eq_true rfl) (lv2 := [(6, .int 0), (4, .long 0), (3, .int 5), (0, .ref 14), (1, .ref 2), (2, .ref 1)]) rfl ?_
  refine a_iload dX6_init_85 rfl ?_
  refine a_iload_n dX6_init_87 rfl rfl ?_
  refine a_callS (As := [.int 5]) (st := [.int 0]) (bc := 0) (bs := 0) (mc := 0) (ms := 0) true dX6_init_88 mw_X10_wordLength rfl (Or.inr ⟨rfl, mn_X6_46⟩) sm_X10_wordLength rfl (by decide) (k_wordLength (fr := fr + 4) 5) (fun v M1 hq => ?_)
  obtain ⟨rfl, hM1⟩ := hq
  rw [hM1]
  clear hM1 M1
  refine a_st (st2 := [.int 1, .int 0]) (by decide +kernel) ?_
  refine a_icmp_ge 115 dX6_init_91 (by decide) (fun c => absurd c (by decide)) (fun _ => ?_)
  refine a_lload dX6_init_94 rfl ?_
  refine a_bipush (v := 8) dX6_init_96 (by decide) ?_
  refine a_lshl dX6_init_98 ?_
  refine a_st (st2 := [.long 0]) (by decide) ?_
  refine a_iload_n dX6_init_99 rfl rfl ?_
  refine a_iload dX6_init_100 rfl ?_
  refine a_callS (As := [.int 5, .int 0]) (st := [.long 0]) (bc := 0) (bs := 0) (mc := 0) (ms := 0) true dX6_init_102 mw_X10_wordLetter rfl (Or.inr ⟨rfl, mn_X6_50⟩) sm_X10_wordLetter rfl (by decide) (k_wordLetter (fr := fr) (c := 5) (i := 0) (by decide) (by decide) (by decide) (by decide +kernel) (by unfold vp_in; decide +kernel)) (fun v M1 hq => ?_)
  obtain ⟨rfl, hM1⟩ := hq
  rw [hM1]
  clear hM1 M1
  refine a_st (st2 := [.int 117, .long 0]) (by decide +kernel) ?_
  refine a_i2l dX6_init_105 ?_
  refine a_st (st2 := [.long 117, .long 0]) (by decide) ?_
  refine a_lor dX6_init_106 ?_
  refine a_st (st2 := [.long 117]) (by decide) ?_
  refine a_lstore dX6_init_107 (Nat.le_of_ble_eq_true rfl) (lv2 := [(4, .long 117), (6, .int 0), (3, .int 5), (0, .ref 14), (1, .ref 2), (2, .ref 1)]) rfl ?_
  refine a_iinc (v := 1) dX6_init_109 rfl (by decide) (Nat.le_of_ble_eq_true rfl) (lv2 := [(6, .int 1), (4, .long 117), (3, .int 5), (0, .ref 14), (1, .ref 2), (2, .ref 1)]) rfl ?_
  refine a_goto 85 dX6_init_112 (by decide) ?_
  refine a_iload dX6_init_85 rfl ?_
  refine a_iload_n dX6_init_87 rfl rfl ?_
  refine a_callS (As := [.int 5]) (st := [.int 1]) (bc := 0) (bs := 0) (mc := 0) (ms := 0) true dX6_init_88 mw_X10_wordLength rfl (Or.inr ⟨rfl, mn_X6_46⟩) sm_X10_wordLength rfl (by decide) (k_wordLength (fr := fr + 4) 5) (fun v M1 hq => ?_)
  obtain ⟨rfl, hM1⟩ := hq
  rw [hM1]
  clear hM1 M1
  refine a_st (st2 := [.int 1, .int 1]) (by decide +kernel) ?_
  refine a_icmp_ge 115 dX6_init_91 (by decide) (fun _ => ?_) (fun c => absurd c (by decide))
  refine a_aload_n dX6_init_115 rfl rfl ?_
  refine a_get (v := .ref 15) dX6_init_116 fl_6_9 (cw_l h21 (by decide)) (cw_s h21 (by decide) rfl) (cw_g h21 rfl (by decide +kernel)) ?_
  refine a_iload_n dX6_init_119 rfl rfl ?_
  refine a_lload dX6_init_120 rfl ?_
  refine a_lastore dX6_init_122 (cw_l h21 (by decide)) (cw_s h21 (by decide) rfl) (by unfold vp_in; decide +kernel) ?_
  rw [show Int32.toNatClampNeg 5 = 5 from by decide +kernel]
  have h22 : Cw 24 Lj24 fs30 gs15 (wJ M21 15 5 117) := cw_J h21 (by decide)
  generalize (wJ M21 15 5 117) = M22 at h22 ⊢
  refine a_iinc (v := 6) dX6_init_123 rfl (by decide) (Nat.le_of_ble_eq_true rfl) (lv2 := [(3, .int 6), (6, .int 1), (4, .long 117), (0, .ref 14), (1, .ref 2), (2, .ref 1)]) rfl ?_
  refine a_goto 73 dX6_init_126 (by decide) ?_
  refine a_iload_n dX6_init_73 rfl rfl ?_
  refine a_bipush (v := 22) dX6_init_74 (by decide) ?_
  refine a_icmp_ge 129 dX6_init_76 (by decide) (fun c => absurd c (by decide)) (fun _ => ?_)
  refine a_lconst (v := 0) dX6_init_79 (by decide) ?_
  refine a_lstore dX6_init_80 (Nat.le_of_ble_eq_true rfl) (lv2 := [(4, .long 0), (3, .int 6), (6, .int 1), (0, .ref 14), (1, .ref 2), (2, .ref 1)]) rfl ?_
  refine a_iconst (v := 0) dX6_init_82 (by decide) ?_
  refine a_istore dX6_init_83 (Nat.le_of_ble_eq_true rfl) (lv2 := [(6, .int 0), (4, .long 0), (3, .int 6), (0, .ref 14), (1, .ref 2), (2, .ref 1)]) rfl ?_
  refine a_iload dX6_init_85 rfl ?_
  refine a_iload_n dX6_init_87 rfl rfl ?_
  refine a_callS (As := [.int 6]) (st := [.int 0]) (bc := 0) (bs := 0) (mc := 0) (ms := 0) true dX6_init_88 mw_X10_wordLength rfl (Or.inr ⟨rfl, mn_X6_46⟩) sm_X10_wordLength rfl (by decide) (k_wordLength (fr := fr + 4) 6) (fun v M1 hq => ?_)
  obtain ⟨rfl, hM1⟩ := hq
  rw [hM1]
  clear hM1 M1
  refine a_st (st2 := [.int 1, .int 0]) (by decide +kernel) ?_
  refine a_icmp_ge 115 dX6_init_91 (by decide) (fun c => absurd c (by decide)) (fun _ => ?_)
  refine a_lload dX6_init_94 rfl ?_
  refine a_bipush (v := 8) dX6_init_96 (by decide) ?_
  refine a_lshl dX6_init_98 ?_
  refine a_st (st2 := [.long 0]) (by decide) ?_
  refine a_iload_n dX6_init_99 rfl rfl ?_
  refine a_iload dX6_init_100 rfl ?_
  refine a_callS (As := [.int 6, .int 0]) (st := [.long 0]) (bc := 0) (bs := 0) (mc := 0) (ms := 0) true dX6_init_102 mw_X10_wordLetter rfl (Or.inr ⟨rfl, mn_X6_50⟩) sm_X10_wordLetter rfl (by decide) (k_wordLetter (fr := fr) (c := 6) (i := 0) (by decide) (by decide) (by decide) (by decide +kernel) (by unfold vp_in; decide +kernel)) (fun v M1 hq => ?_)
  obtain ⟨rfl, hM1⟩ := hq
  rw [hM1]
  clear hM1 M1
  refine a_st (st2 := [.int 118, .long 0]) (by decide +kernel) ?_
  refine a_i2l dX6_init_105 ?_
  refine a_st (st2 := [.long 118, .long 0]) (by decide) ?_
  refine a_lor dX6_init_106 ?_
  refine a_st (st2 := [.long 118]) (by decide) ?_
  refine a_lstore dX6_init_107 (Nat.le_of_ble_eq_true rfl) (lv2 := [(4, .long 118), (6, .int 0), (3, .int 6), (0, .ref 14), (1, .ref 2), (2, .ref 1)]) rfl ?_
  refine a_iinc (v := 1) dX6_init_109 rfl (by decide) (Nat.le_of_ble_eq_true rfl) (lv2 := [(6, .int 1), (4, .long 118), (3, .int 6), (0, .ref 14), (1, .ref 2), (2, .ref 1)]) rfl ?_
  refine a_goto 85 dX6_init_112 (by decide) ?_
  refine a_iload dX6_init_85 rfl ?_
  refine a_iload_n dX6_init_87 rfl rfl ?_
  refine a_callS (As := [.int 6]) (st := [.int 1]) (bc := 0) (bs := 0) (mc := 0) (ms := 0) true dX6_init_88 mw_X10_wordLength rfl (Or.inr ⟨rfl, mn_X6_46⟩) sm_X10_wordLength rfl (by decide) (k_wordLength (fr := fr + 4) 6) (fun v M1 hq => ?_)
  obtain ⟨rfl, hM1⟩ := hq
  rw [hM1]
  clear hM1 M1
  refine a_st (st2 := [.int 1, .int 1]) (by decide +kernel) ?_
  refine a_icmp_ge 115 dX6_init_91 (by decide) (fun _ => ?_) (fun c => absurd c (by decide))
  refine a_aload_n dX6_init_115 rfl rfl ?_
  refine a_get (v := .ref 15) dX6_init_116 fl_6_9 (cw_l h22 (by decide)) (cw_s h22 (by decide) rfl) (cw_g h22 rfl (by decide +kernel)) ?_
  refine a_iload_n dX6_init_119 rfl rfl ?_
  refine a_lload dX6_init_120 rfl ?_
  refine a_lastore dX6_init_122 (cw_l h22 (by decide)) (cw_s h22 (by decide) rfl) (by unfold vp_in; decide +kernel) ?_
  rw [show Int32.toNatClampNeg 6 = 6 from by decide +kernel]
  have h23 : Cw 24 Lj24 fs30 gs16 (wJ M22 15 6 118) := cw_J h22 (by decide)
  generalize (wJ M22 15 6 118) = M23 at h23 ⊢
  refine a_iinc (v := 7) dX6_init_123 rfl (by decide) (Nat.le_of_ble_eq_true rfl) (lv2 := [(3, .int 7), (6, .int 1), (4, .long 118), (0, .ref 14), (1, .ref 2), (2, .ref 1)]) rfl ?_
  refine a_goto 73 dX6_init_126 (by decide) ?_
  refine a_iload_n dX6_init_73 rfl rfl ?_
  refine a_bipush (v := 22) dX6_init_74 (by decide) ?_
  refine a_icmp_ge 129 dX6_init_76 (by decide) (fun c => absurd c (by decide)) (fun _ => ?_)
  refine a_lconst (v := 0) dX6_init_79 (by decide) ?_
  refine a_lstore dX6_init_80 (Nat.le_of_ble_eq_true rfl) (lv2 := [(4, .long 0), (3, .int 7), (6, .int 1), (0, .ref 14), (1, .ref 2), (2, .ref 1)]) rfl ?_
  refine a_iconst (v := 0) dX6_init_82 (by decide) ?_
  refine a_istore dX6_init_83 (Nat.le_of_ble_eq_true rfl) (lv2 := [(6, .int 0), (4, .long 0), (3, .int 7), (0, .ref 14), (1, .ref 2), (2, .ref 1)]) rfl ?_
  refine a_iload dX6_init_85 rfl ?_
  refine a_iload_n dX6_init_87 rfl rfl ?_
  refine a_callS (As := [.int 7]) (st := [.int 0]) (bc := 0) (bs := 0) (mc := 0) (ms := 0) true dX6_init_88 mw_X10_wordLength rfl (Or.inr ⟨rfl, mn_X6_46⟩) sm_X10_wordLength rfl (by decide) (k_wordLength (fr := fr + 4) 7) (fun v M1 hq => ?_)
  obtain ⟨rfl, hM1⟩ := hq
  rw [hM1]
  clear hM1 M1
  refine a_st (st2 := [.int 1, .int 0]) (by decide +kernel) ?_
  refine a_icmp_ge 115 dX6_init_91 (by decide) (fun c => absurd c (by decide)) (fun _ => ?_)
  refine a_lload dX6_init_94 rfl ?_
  refine a_bipush (v := 8) dX6_init_96 (by decide) ?_
  refine a_lshl dX6_init_98 ?_
  refine a_st (st2 := [.long 0]) (by decide) ?_
  refine a_iload_n dX6_init_99 rfl rfl ?_
  refine a_iload dX6_init_100 rfl ?_
  refine a_callS (As := [.int 7, .int 0]) (st := [.long 0]) (bc := 0) (bs := 0) (mc := 0) (ms := 0) true dX6_init_102 mw_X10_wordLetter rfl (Or.inr ⟨rfl, mn_X6_50⟩) sm_X10_wordLetter rfl (by decide) (k_wordLetter (fr := fr) (c := 7) (i := 0) (by decide) (by decide) (by decide) (by decide +kernel) (by unfold vp_in; decide +kernel)) (fun v M1 hq => ?_)
  obtain ⟨rfl, hM1⟩ := hq
  rw [hM1]
  clear hM1 M1
  refine a_st (st2 := [.int 119, .long 0]) (by decide +kernel) ?_
  refine a_i2l dX6_init_105 ?_
  refine a_st (st2 := [.long 119, .long 0]) (by decide) ?_
  refine a_lor dX6_init_106 ?_
  refine a_st (st2 := [.long 119]) (by decide) ?_
  refine a_lstore dX6_init_107 (Nat.le_of_ble_eq_true rfl) (lv2 := [(4, .long 119), (6, .int 0), (3, .int 7), (0, .ref 14), (1, .ref 2), (2, .ref 1)]) rfl ?_
  refine a_iinc (v := 1) dX6_init_109 rfl (by decide) (Nat.le_of_ble_eq_true rfl) (lv2 := [(6, .int 1), (4, .long 119), (3, .int 7), (0, .ref 14), (1, .ref 2), (2, .ref 1)]) rfl ?_
  refine a_goto 85 dX6_init_112 (by decide) ?_
  refine a_iload dX6_init_85 rfl ?_
  refine a_iload_n dX6_init_87 rfl rfl ?_
  refine a_callS (As := [.int 7]) (st := [.int 1]) (bc := 0) (bs := 0) (mc := 0) (ms := 0) true dX6_init_88 mw_X10_wordLength rfl (Or.inr ⟨rfl, mn_X6_46⟩) sm_X10_wordLength rfl (by decide) (k_wordLength (fr := fr + 4) 7) (fun v M1 hq => ?_)
  obtain ⟨rfl, hM1⟩ := hq
  rw [hM1]
  clear hM1 M1
  refine a_st (st2 := [.int 1, .int 1]) (by decide +kernel) ?_
  refine a_icmp_ge 115 dX6_init_91 (by decide) (fun _ => ?_) (fun c => absurd c (by decide))
  refine a_aload_n dX6_init_115 rfl rfl ?_
  refine a_get (v := .ref 15) dX6_init_116 fl_6_9 (cw_l h23 (by decide)) (cw_s h23 (by decide) rfl) (cw_g h23 rfl (by decide +kernel)) ?_
  refine a_iload_n dX6_init_119 rfl rfl ?_
  refine a_lload dX6_init_120 rfl ?_
  refine a_lastore dX6_init_122 (cw_l h23 (by decide)) (cw_s h23 (by decide) rfl) (by unfold vp_in; decide +kernel) ?_
  rw [show Int32.toNatClampNeg 7 = 7 from by decide +kernel]
  have h24 : Cw 24 Lj24 fs30 gs17 (wJ M23 15 7 119) := cw_J h23 (by decide)
  generalize (wJ M23 15 7 119) = M24 at h24 ⊢
  refine a_iinc (v := 8) dX6_init_123 rfl (by decide) (Nat.le_of_ble_eq_true rfl) (lv2 := [(3, .int 8), (6, .int 1), (4, .long 119), (0, .ref 14), (1, .ref 2), (2, .ref 1)]) rfl ?_
  refine a_goto 73 dX6_init_126 (by decide) ?_
  refine a_iload_n dX6_init_73 rfl rfl ?_
  refine a_bipush (v := 22) dX6_init_74 (by decide) ?_
  refine a_icmp_ge 129 dX6_init_76 (by decide) (fun c => absurd c (by decide)) (fun _ => ?_)
  refine a_lconst (v := 0) dX6_init_79 (by decide) ?_
  refine a_lstore dX6_init_80 (Nat.le_of_ble_eq_true rfl) (lv2 := [(4, .long 0), (3, .int 8), (6, .int 1), (0, .ref 14), (1, .ref 2), (2, .ref 1)]) rfl ?_
  refine a_iconst (v := 0) dX6_init_82 (by decide) ?_
  refine a_istore dX6_init_83 (Nat.le_of_ble_eq_true rfl) (lv2 := [(6, .int 0), (4, .long 0), (3, .int 8), (0, .ref 14), (1, .ref 2), (2, .ref 1)]) rfl ?_
  refine a_iload dX6_init_85 rfl ?_
  refine a_iload_n dX6_init_87 rfl rfl ?_
  refine a_callS (As := [.int 8]) (st := [.int 0]) (bc := 0) (bs := 0) (mc := 0) (ms := 0) true dX6_init_88 mw_X10_wordLength rfl (Or.inr ⟨rfl, mn_X6_46⟩) sm_X10_wordLength rfl (by decide) (k_wordLength (fr := fr + 4) 8) (fun v M1 hq => ?_)
  obtain ⟨rfl, hM1⟩ := hq
  rw [hM1]
  clear hM1 M1
  refine a_st (st2 := [.int 2, .int 0]) (by decide +kernel) ?_
  refine a_icmp_ge 115 dX6_init_91 (by decide) (fun c => absurd c (by decide)) (fun _ => ?_)
  refine a_lload dX6_init_94 rfl ?_
  refine a_bipush (v := 8) dX6_init_96 (by decide) ?_
  refine a_lshl dX6_init_98 ?_
  refine a_st (st2 := [.long 0]) (by decide) ?_
  refine a_iload_n dX6_init_99 rfl rfl ?_
  refine a_iload dX6_init_100 rfl ?_
  refine a_callS (As := [.int 8, .int 0]) (st := [.long 0]) (bc := 0) (bs := 0) (mc := 0) (ms := 0) true dX6_init_102 mw_X10_wordLetter rfl (Or.inr ⟨rfl, mn_X6_50⟩) sm_X10_wordLetter rfl (by decide) (k_wordLetter (fr := fr) (c := 8) (i := 0) (by decide) (by decide) (by decide) (by decide +kernel) (by unfold vp_in; decide +kernel)) (fun v M1 hq => ?_)
  obtain ⟨rfl, hM1⟩ := hq
  rw [hM1]
  clear hM1 M1
  refine a_st (st2 := [.int 110, .long 0]) (by decide +kernel) ?_
  refine a_i2l dX6_init_105 ?_
  refine a_st (st2 := [.long 110, .long 0]) (by decide) ?_
  refine a_lor dX6_init_106 ?_
  refine a_st (st2 := [.long 110]) (by decide) ?_
  refine a_lstore dX6_init_107 (Nat.le_of_ble_eq_true rfl) (lv2 := [(4, .long 110), (6, .int 0), (3, .int 8), (0, .ref 14), (1, .ref 2), (2, .ref 1)]) rfl ?_
  refine a_iinc (v := 1) dX6_init_109 rfl (by decide) (Nat.le_of_ble_eq_true rfl) (lv2 := [(6, .int 1), (4, .long 110), (3, .int 8), (0, .ref 14), (1, .ref 2), (2, .ref 1)]) rfl ?_
  refine a_goto 85 dX6_init_112 (by decide) ?_
  refine a_iload dX6_init_85 rfl ?_
  refine a_iload_n dX6_init_87 rfl rfl ?_
  refine a_callS (As := [.int 8]) (st := [.int 1]) (bc := 0) (bs := 0) (mc := 0) (ms := 0) true dX6_init_88 mw_X10_wordLength rfl (Or.inr ⟨rfl, mn_X6_46⟩) sm_X10_wordLength rfl (by decide) (k_wordLength (fr := fr + 4) 8) (fun v M1 hq => ?_)
  obtain ⟨rfl, hM1⟩ := hq
  rw [hM1]
  clear hM1 M1
  refine a_st (st2 := [.int 2, .int 1]) (by decide +kernel) ?_
  refine a_icmp_ge 115 dX6_init_91 (by decide) (fun c => absurd c (by decide)) (fun _ => ?_)
  refine a_lload dX6_init_94 rfl ?_
  refine a_bipush (v := 8) dX6_init_96 (by decide) ?_
  refine a_lshl dX6_init_98 ?_
  refine a_st (st2 := [.long 28160]) (by decide) ?_
  refine a_iload_n dX6_init_99 rfl rfl ?_
  refine a_iload dX6_init_100 rfl ?_
  refine a_callS (As := [.int 8, .int 1]) (st := [.long 28160]) (bc := 0) (bs := 0) (mc := 0) (ms := 0) true dX6_init_102 mw_X10_wordLetter rfl (Or.inr ⟨rfl, mn_X6_50⟩) sm_X10_wordLetter rfl (by decide) (k_wordLetter (fr := fr) (c := 8) (i := 1) (by decide) (by decide) (by decide) (by decide +kernel) (by unfold vp_in; decide +kernel)) (fun v M1 hq => ?_)
  obtain ⟨rfl, hM1⟩ := hq
  rw [hM1]
  clear hM1 M1
  refine a_st (st2 := [.int 111, .long 28160]) (by decide +kernel) ?_
  refine a_i2l dX6_init_105 ?_
  refine a_st (st2 := [.long 111, .long 28160]) (by decide) ?_
  refine a_lor dX6_init_106 ?_
  refine a_st (st2 := [.long 28271]) (by decide) ?_
  refine a_lstore dX6_init_107 (Nat.le_of_ble_eq_true rfl) (lv2 := [(4, .long 28271), (6, .int 1), (3, .int 8), (0, .ref 14), (1, .ref 2), (2, .ref 1)]) rfl ?_
  refine a_iinc (v := 2) dX6_init_109 rfl (by decide) (Nat.le_of_ble_eq_true rfl) (lv2 := [(6, .int 2), (4, .long 28271), (3, .int 8), (0, .ref 14), (1, .ref 2), (2, .ref 1)]) rfl ?_
  refine a_goto 85 dX6_init_112 (by decide) ?_
  refine a_iload dX6_init_85 rfl ?_
  refine a_iload_n dX6_init_87 rfl rfl ?_
  refine a_callS (As := [.int 8]) (st := [.int 2]) (bc := 0) (bs := 0) (mc := 0) (ms := 0) true dX6_init_88 mw_X10_wordLength rfl (Or.inr ⟨rfl, mn_X6_46⟩) sm_X10_wordLength rfl (by decide) (k_wordLength (fr := fr + 4) 8) (fun v M1 hq => ?_)
  obtain ⟨rfl, hM1⟩ := hq
  rw [hM1]
  clear hM1 M1
  refine a_st (st2 := [.int 2, .int 2]) (by decide +kernel) ?_
  refine a_icmp_ge 115 dX6_init_91 (by decide) (fun _ => ?_) (fun c => absurd c (by decide))
  refine a_aload_n dX6_init_115 rfl rfl ?_
  refine a_get (v := .ref 15) dX6_init_116 fl_6_9 (cw_l h24 (by decide)) (cw_s h24 (by decide) rfl) (cw_g h24 rfl (by decide +kernel)) ?_
  refine a_iload_n dX6_init_119 rfl rfl ?_
  refine a_lload dX6_init_120 rfl ?_
  refine a_lastore dX6_init_122 (cw_l h24 (by decide)) (cw_s h24 (by decide) rfl) (by unfold vp_in; decide +kernel) ?_
  rw [show Int32.toNatClampNeg 8 = 8 from by decide +kernel]
  have h25 : Cw 24 Lj24 fs30 gs18 (wJ M24 15 8 28271) := cw_J h24 (by decide)
  generalize (wJ M24 15 8 28271) = M25 at h25 ⊢
  refine a_iinc (v := 9) dX6_init_123 rfl (by decide) (Nat.le_of_ble_eq_true rfl) (lv2 := [(3, .int 9), (6, .int 2), (4, .long 28271), (0, .ref 14), (1, .ref 2), (2, .ref 1)]) rfl ?_
  refine a_goto 73 dX6_init_126 (by decide) ?_
  refine a_iload_n dX6_init_73 rfl rfl ?_
  refine a_bipush (v := 22) dX6_init_74 (by decide) ?_
  refine a_icmp_ge 129 dX6_init_76 (by decide) (fun c => absurd c (by decide)) (fun _ => ?_)
  refine a_lconst (v := 0) dX6_init_79 (by decide) ?_
  refine a_lstore dX6_init_80 (Nat.le_of_ble_eq_true rfl) (lv2 := [(4, .long 0), (3, .int 9), (6, .int 2), (0, .ref 14), (1, .ref 2), (2, .ref 1)]) rfl ?_
  refine a_iconst (v := 0) dX6_init_82 (by decide) ?_
  refine a_istore dX6_init_83 (Nat.le_of_ble_eq_true rfl) (lv2 := [(6, .int 0), (4, .long 0), (3, .int 9), (0, .ref 14), (1, .ref 2), (2, .ref 1)]) rfl ?_
  refine a_iload dX6_init_85 rfl ?_
  refine a_iload_n dX6_init_87 rfl rfl ?_
  refine a_callS (As := [.int 9]) (st := [.int 0]) (bc := 0) (bs := 0) (mc := 0) (ms := 0) true dX6_init_88 mw_X10_wordLength rfl (Or.inr ⟨rfl, mn_X6_46⟩) sm_X10_wordLength rfl (by decide) (k_wordLength (fr := fr + 4) 9) (fun v M1 hq => ?_)
  obtain ⟨rfl, hM1⟩ := hq
  rw [hM1]
  clear hM1 M1
  refine a_st (st2 := [.int 3, .int 0]) (by decide +kernel) ?_
  refine a_icmp_ge 115 dX6_init_91 (by decide) (fun c => absurd c (by decide)) (fun _ => ?_)
  refine a_lload dX6_init_94 rfl ?_
  refine a_bipush (v := 8) dX6_init_96 (by decide) ?_
  refine a_lshl dX6_init_98 ?_
  refine a_st (st2 := [.long 0]) (by decide) ?_
  refine a_iload_n dX6_init_99 rfl rfl ?_
  refine a_iload dX6_init_100 rfl ?_
  refine a_callS (As := [.int 9, .int 0]) (st := [.long 0]) (bc := 0) (bs := 0) (mc := 0) (ms := 0) true dX6_init_102 mw_X10_wordLetter rfl (Or.inr ⟨rfl, mn_X6_50⟩) sm_X10_wordLetter rfl (by decide) (k_wordLetter (fr := fr) (c := 9) (i := 0) (by decide) (by decide) (by decide) (by decide +kernel) (by unfold vp_in; decide +kernel)) (fun v M1 hq => ?_)
  obtain ⟨rfl, hM1⟩ := hq
  rw [hM1]
  clear hM1 M1
  refine a_st (st2 := [.int 105, .long 0]) (by decide +kernel) ?_
  refine a_i2l dX6_init_105 ?_
  refine a_st (st2 := [.long 105, .long 0]) (by decide) ?_
  refine a_lor dX6_init_106 ?_
  refine a_st (st2 := [.long 105]) (by decide) ?_
  refine a_lstore dX6_init_107 (Nat.le_of_ble_eq_true rfl) (lv2 := [(4, .long 105), (6, .int 0), (3, .int 9), (0, .ref 14), (1, .ref 2), (2, .ref 1)]) rfl ?_
  refine a_iinc (v := 1) dX6_init_109 rfl (by decide) (Nat.le_of_ble_eq_true rfl) (lv2 := [(6, .int 1), (4, .long 105), (3, .int 9), (0, .ref 14), (1, .ref 2), (2, .ref 1)]) rfl ?_
  refine a_goto 85 dX6_init_112 (by decide) ?_
  refine a_iload dX6_init_85 rfl ?_
  refine a_iload_n dX6_init_87 rfl rfl ?_
  refine a_callS (As := [.int 9]) (st := [.int 1]) (bc := 0) (bs := 0) (mc := 0) (ms := 0) true dX6_init_88 mw_X10_wordLength rfl (Or.inr ⟨rfl, mn_X6_46⟩) sm_X10_wordLength rfl (by decide) (k_wordLength (fr := fr + 4) 9) (fun v M1 hq => ?_)
  obtain ⟨rfl, hM1⟩ := hq
  rw [hM1]
  clear hM1 M1
  refine a_st (st2 := [.int 3, .int 1]) (by decide +kernel) ?_
  refine a_icmp_ge 115 dX6_init_91 (by decide) (fun c => absurd c (by decide)) (fun _ => ?_)
  refine a_lload dX6_init_94 rfl ?_
  refine a_bipush (v := 8) dX6_init_96 (by decide) ?_
  refine a_lshl dX6_init_98 ?_
  refine a_st (st2 := [.long 26880]) (by decide) ?_
  refine a_iload_n dX6_init_99 rfl rfl ?_
  refine a_iload dX6_init_100 rfl ?_
  refine a_callS (As := [.int 9, .int 1]) (st := [.long 26880]) (bc := 0) (bs := 0) (mc := 0) (ms := 0) true dX6_init_102 mw_X10_wordLetter rfl (Or.inr ⟨rfl, mn_X6_50⟩) sm_X10_wordLetter rfl (by decide) (k_wordLetter (fr := fr) (c := 9) (i := 1) (by decide) (by decide) (by decide) (by decide +kernel) (by unfold vp_in; decide +kernel)) (fun v M1 hq => ?_)
  obtain ⟨rfl, hM1⟩ := hq
  rw [hM1]
  clear hM1 M1
  refine a_st (st2 := [.int 109, .long 26880]) (by decide +kernel) ?_
  refine a_i2l dX6_init_105 ?_
  refine a_st (st2 := [.long 109, .long 26880]) (by decide) ?_
  refine a_lor dX6_init_106 ?_
  refine a_st (st2 := [.long 26989]) (by decide) ?_
  refine a_lstore dX6_init_107 (Nat.le_of_ble_eq_true rfl) (lv2 := [(4, .long 26989), (6, .int 1), (3, .int 9), (0, .ref 14), (1, .ref 2), (2, .ref 1)]) rfl ?_
  refine a_iinc (v := 2) dX6_init_109 rfl (by decide) (Nat.le_of_ble_eq_true rfl) (lv2 := [(6, .int 2), (4, .long 26989), (3, .int 9), (0, .ref 14), (1, .ref 2), (2, .ref 1)]) rfl ?_
  refine a_goto 85 dX6_init_112 (by decide) ?_
  refine a_iload dX6_init_85 rfl ?_
  refine a_iload_n dX6_init_87 rfl rfl ?_
  refine a_callS (As := [.int 9]) (st := [.int 2]) (bc := 0) (bs := 0) (mc := 0) (ms := 0) true dX6_init_88 mw_X10_wordLength rfl (Or.inr ⟨rfl, mn_X6_46⟩) sm_X10_wordLength rfl (by decide) (k_wordLength (fr := fr + 4) 9) (fun v M1 hq => ?_)
  obtain ⟨rfl, hM1⟩ := hq
  rw [hM1]
  clear hM1 M1
  refine a_st (st2 := [.int 3, .int 2]) (by decide +kernel) ?_
  refine a_icmp_ge 115 dX6_init_91 (by decide) (fun c => absurd c (by decide)) (fun _ => ?_)
  refine a_lload dX6_init_94 rfl ?_
  refine a_bipush (v := 8) dX6_init_96 (by decide) ?_
  refine a_lshl dX6_init_98 ?_
  refine a_st (st2 := [.long 6909184]) (by decide) ?_
  refine a_iload_n dX6_init_99 rfl rfl ?_
  refine a_iload dX6_init_100 rfl ?_
  refine a_callS (As := [.int 9, .int 2]) (st := [.long 6909184]) (bc := 0) (bs := 0) (mc := 0) (ms := 0) true dX6_init_102 mw_X10_wordLetter rfl (Or.inr ⟨rfl, mn_X6_50⟩) sm_X10_wordLetter rfl (by decide) (k_wordLetter (fr := fr) (c := 9) (i := 2) (by decide) (by decide) (by decide) (by decide +kernel) (by unfold vp_in; decide +kernel)) (fun v M1 hq => ?_)
  obtain ⟨rfl, hM1⟩ := hq
  rw [hM1]
  clear hM1 M1
  refine a_st (st2 := [.int 112, .long 6909184]) (by decide +kernel) ?_
  refine a_i2l dX6_init_105 ?_
  refine a_st (st2 := [.long 112, .long 6909184]) (by decide) ?_
  refine a_lor dX6_init_106 ?_
  refine a_st (st2 := [.long 6909296]) (by decide) ?_
  refine a_lstore dX6_init_107 (Nat.le_of_ble_eq_true rfl) (lv2 := [(4, .long 6909296), (6, .int 2), (3, .int 9), (0, .ref 14), (1, .ref 2), (2, .ref 1)]) rfl ?_
  refine a_iinc (v := 3) dX6_init_109 rfl (by decide) (Nat.le_of_ble_eq_true rfl) (lv2 := [(6, .int 3), (4, .long 6909296), (3, .int 9), (0, .ref 14), (1, .ref 2), (2, .ref 1)]) rfl ?_
  refine a_goto 85 dX6_init_112 (by decide) ?_
  refine a_iload dX6_init_85 rfl ?_
  refine a_iload_n dX6_init_87 rfl rfl ?_
  refine a_callS (As := [.int 9]) (st := [.int 3]) (bc := 0) (bs := 0) (mc := 0) (ms := 0) true dX6_init_88 mw_X10_wordLength rfl (Or.inr ⟨rfl, mn_X6_46⟩) sm_X10_wordLength rfl (by decide) (k_wordLength (fr := fr + 4) 9) (fun v M1 hq => ?_)
  obtain ⟨rfl, hM1⟩ := hq
  rw [hM1]
  clear hM1 M1
  refine a_st (st2 := [.int 3, .int 3]) (by decide +kernel) ?_
  refine a_icmp_ge 115 dX6_init_91 (by decide) (fun _ => ?_) (fun c => absurd c (by decide))
  refine a_aload_n dX6_init_115 rfl rfl ?_
  refine a_get (v := .ref 15) dX6_init_116 fl_6_9 (cw_l h25 (by decide)) (cw_s h25 (by decide) rfl) (cw_g h25 rfl (by decide +kernel)) ?_
  refine a_iload_n dX6_init_119 rfl rfl ?_
  refine a_lload dX6_init_120 rfl ?_
  refine a_lastore dX6_init_122 (cw_l h25 (by decide)) (cw_s h25 (by decide) rfl) (by unfold vp_in; decide +kernel) ?_
  rw [show Int32.toNatClampNeg 9 = 9 from by decide +kernel]
  have h26 : Cw 24 Lj24 fs30 gs19 (wJ M25 15 9 6909296) := cw_J h25 (by decide)
  generalize (wJ M25 15 9 6909296) = M26 at h26 ⊢
  refine a_iinc (v := 10) dX6_init_123 rfl (by decide) (Nat.le_of_ble_eq_true rfl) (lv2 := [(3, .int 10), (6, .int 3), (4, .long 6909296), (0, .ref 14), (1, .ref 2), (2, .ref 1)]) rfl ?_
  refine a_goto 73 dX6_init_126 (by decide) ?_
  refine a_iload_n dX6_init_73 rfl rfl ?_
  refine a_bipush (v := 22) dX6_init_74 (by decide) ?_
  refine a_icmp_ge 129 dX6_init_76 (by decide) (fun c => absurd c (by decide)) (fun _ => ?_)
  refine a_lconst (v := 0) dX6_init_79 (by decide) ?_
  refine a_lstore dX6_init_80 (Nat.le_of_ble_eq_true rfl) (lv2 := [(4, .long 0), (3, .int 10), (6, .int 3), (0, .ref 14), (1, .ref 2), (2, .ref 1)]) rfl ?_
  refine a_iconst (v := 0) dX6_init_82 (by decide) ?_
  refine a_istore dX6_init_83 (Nat.le_of_ble_eq_true rfl) (lv2 := [(6, .int 0), (4, .long 0), (3, .int 10), (0, .ref 14), (1, .ref 2), (2, .ref 1)]) rfl ?_
  refine a_iload dX6_init_85 rfl ?_
  refine a_iload_n dX6_init_87 rfl rfl ?_
  refine a_callS (As := [.int 10]) (st := [.int 0]) (bc := 0) (bs := 0) (mc := 0) (ms := 0) true dX6_init_88 mw_X10_wordLength rfl (Or.inr ⟨rfl, mn_X6_46⟩) sm_X10_wordLength rfl (by decide) (k_wordLength (fr := fr + 4) 10) (fun v M1 hq => ?_)
  obtain ⟨rfl, hM1⟩ := hq
  rw [hM1]
  clear hM1 M1
  refine a_st (st2 := [.int 3, .int 0]) (by decide +kernel) ?_
  refine a_icmp_ge 115 dX6_init_91 (by decide) (fun c => absurd c (by decide)) (fun _ => ?_)
  refine a_lload dX6_init_94 rfl ?_
  refine a_bipush (v := 8) dX6_init_96 (by decide) ?_
  refine a_lshl dX6_init_98 ?_
  refine a_st (st2 := [.long 0]) (by decide) ?_
  refine a_iload_n dX6_init_99 rfl rfl ?_
  refine a_iload dX6_init_100 rfl ?_
  refine a_callS (As := [.int 10, .int 0]) (st := [.long 0]) (bc := 0) (bs := 0) (mc := 0) (ms := 0) true dX6_init_102 mw_X10_wordLetter rfl (Or.inr ⟨rfl, mn_X6_50⟩) sm_X10_wordLetter rfl (by decide) (k_wordLetter (fr := fr) (c := 10) (i := 0) (by decide) (by decide) (by decide) (by decide +kernel) (by unfold vp_in; decide +kernel)) (fun v M1 hq => ?_)
  obtain ⟨rfl, hM1⟩ := hq
  rw [hM1]
  clear hM1 M1
  refine a_st (st2 := [.int 97, .long 0]) (by decide +kernel) ?_
  refine a_i2l dX6_init_105 ?_
  refine a_st (st2 := [.long 97, .long 0]) (by decide) ?_
  refine a_lor dX6_init_106 ?_
  refine a_st (st2 := [.long 97]) (by decide) ?_
  refine a_lstore dX6_init_107 (Nat.le_of_ble_eq_true rfl) (lv2 := [(4, .long 97), (6, .int 0), (3, .int 10), (0, .ref 14), (1, .ref 2), (2, .ref 1)]) rfl ?_
  refine a_iinc (v := 1) dX6_init_109 rfl (by decide) (Nat.le_of_ble_eq_true rfl) (lv2 := [(6, .int 1), (4, .long 97), (3, .int 10), (0, .ref 14), (1, .ref 2), (2, .ref 1)]) rfl ?_
  refine a_goto 85 dX6_init_112 (by decide) ?_
  refine a_iload dX6_init_85 rfl ?_
  refine a_iload_n dX6_init_87 rfl rfl ?_
  refine a_callS (As := [.int 10]) (st := [.int 1]) (bc := 0) (bs := 0) (mc := 0) (ms := 0) true dX6_init_88 mw_X10_wordLength rfl (Or.inr ⟨rfl, mn_X6_46⟩) sm_X10_wordLength rfl (by decide) (k_wordLength (fr := fr + 4) 10) (fun v M1 hq => ?_)
  obtain ⟨rfl, hM1⟩ := hq
  rw [hM1]
  clear hM1 M1
  refine a_st (st2 := [.int 3, .int 1]) (by decide +kernel) ?_
  refine a_icmp_ge 115 dX6_init_91 (by decide) (fun c => absurd c (by decide)) (fun _ => ?_)
  refine a_lload dX6_init_94 rfl ?_
  refine a_bipush (v := 8) dX6_init_96 (by decide) ?_
  refine a_lshl dX6_init_98 ?_
  refine a_st (st2 := [.long 24832]) (by decide) ?_
  refine a_iload_n dX6_init_99 rfl rfl ?_
  refine a_iload dX6_init_100 rfl ?_
  refine a_callS (As := [.int 10, .int 1]) (st := [.long 24832]) (bc := 0) (bs := 0) (mc := 0) (ms := 0) true dX6_init_102 mw_X10_wordLetter rfl (Or.inr ⟨rfl, mn_X6_50⟩) sm_X10_wordLetter rfl (by decide) (k_wordLetter (fr := fr) (c := 10) (i := 1) (by decide) (by decide) (by decide) (by decide +kernel) (by unfold vp_in; decide +kernel)) (fun v M1 hq => ?_)
  obtain ⟨rfl, hM1⟩ := hq
  rw [hM1]
  clear hM1 M1
  refine a_st (st2 := [.int 110, .long 24832]) (by decide +kernel) ?_
  refine a_i2l dX6_init_105 ?_
  refine a_st (st2 := [.long 110, .long 24832]) (by decide) ?_
  refine a_lor dX6_init_106 ?_
  refine a_st (st2 := [.long 24942]) (by decide) ?_
  refine a_lstore dX6_init_107 (Nat.le_of_ble_eq_true rfl) (lv2 := [(4, .long 24942), (6, .int 1), (3, .int 10), (0, .ref 14), (1, .ref 2), (2, .ref 1)]) rfl ?_
  refine a_iinc (v := 2) dX6_init_109 rfl (by decide) (Nat.le_of_ble_eq_true rfl) (lv2 := [(6, .int 2), (4, .long 24942), (3, .int 10), (0, .ref 14), (1, .ref 2), (2, .ref 1)]) rfl ?_
  refine a_goto 85 dX6_init_112 (by decide) ?_
  refine a_iload dX6_init_85 rfl ?_
  refine a_iload_n dX6_init_87 rfl rfl ?_
  refine a_callS (As := [.int 10]) (st := [.int 2]) (bc := 0) (bs := 0) (mc := 0) (ms := 0) true dX6_init_88 mw_X10_wordLength rfl (Or.inr ⟨rfl, mn_X6_46⟩) sm_X10_wordLength rfl (by decide) (k_wordLength (fr := fr + 4) 10) (fun v M1 hq => ?_)
  obtain ⟨rfl, hM1⟩ := hq
  rw [hM1]
  clear hM1 M1
  refine a_st (st2 := [.int 3, .int 2]) (by decide +kernel) ?_
  refine a_icmp_ge 115 dX6_init_91 (by decide) (fun c => absurd c (by decide)) (fun _ => ?_)
  refine a_lload dX6_init_94 rfl ?_
  refine a_bipush (v := 8) dX6_init_96 (by decide) ?_
  refine a_lshl dX6_init_98 ?_
  refine a_st (st2 := [.long 6385152]) (by decide) ?_
  refine a_iload_n dX6_init_99 rfl rfl ?_
  refine a_iload dX6_init_100 rfl ?_
  refine a_callS (As := [.int 10, .int 2]) (st := [.long 6385152]) (bc := 0) (bs := 0) (mc := 0) (ms := 0) true dX6_init_102 mw_X10_wordLetter rfl (Or.inr ⟨rfl, mn_X6_50⟩) sm_X10_wordLetter rfl (by decide) (k_wordLetter (fr := fr) (c := 10) (i := 2) (by decide) (by decide) (by decide) (by decide +kernel) (by unfold vp_in; decide +kernel)) (fun v M1 hq => ?_)
  obtain ⟨rfl, hM1⟩ := hq
  rw [hM1]
  clear hM1 M1
  refine a_st (st2 := [.int 100, .long 6385152]) (by decide +kernel) ?_
  refine a_i2l dX6_init_105 ?_
  refine a_st (st2 := [.long 100, .long 6385152]) (by decide) ?_
  refine a_lor dX6_init_106 ?_
  refine a_st (st2 := [.long 6385252]) (by decide) ?_
  refine a_lstore dX6_init_107 (Nat.le_of_ble_eq_true rfl) (lv2 := [(4, .long 6385252), (6, .int 2), (3, .int 10), (0, .ref 14), (1, .ref 2), (2, .ref 1)]) rfl ?_
  refine a_iinc (v := 3) dX6_init_109 rfl (by decide) (Nat.le_of_ble_eq_true rfl) (lv2 := [(6, .int 3), (4, .long 6385252), (3, .int 10), (0, .ref 14), (1, .ref 2), (2, .ref 1)]) rfl ?_
  refine a_goto 85 dX6_init_112 (by decide) ?_
  refine a_iload dX6_init_85 rfl ?_
  refine a_iload_n dX6_init_87 rfl rfl ?_
  refine a_callS (As := [.int 10]) (st := [.int 3]) (bc := 0) (bs := 0) (mc := 0) (ms := 0) true dX6_init_88 mw_X10_wordLength rfl (Or.inr ⟨rfl, mn_X6_46⟩) sm_X10_wordLength rfl (by decide) (k_wordLength (fr := fr + 4) 10) (fun v M1 hq => ?_)
  obtain ⟨rfl, hM1⟩ := hq
  rw [hM1]
  clear hM1 M1
  refine a_st (st2 := [.int 3, .int 3]) (by decide +kernel) ?_
  refine a_icmp_ge 115 dX6_init_91 (by decide) (fun _ => ?_) (fun c => absurd c (by decide))
  refine a_aload_n dX6_init_115 rfl rfl ?_
  refine a_get (v := .ref 15) dX6_init_116 fl_6_9 (cw_l h26 (by decide)) (cw_s h26 (by decide) rfl) (cw_g h26 rfl (by decide +kernel)) ?_
  refine a_iload_n dX6_init_119 rfl rfl ?_
  refine a_lload dX6_init_120 rfl ?_
  refine a_lastore dX6_init_122 (cw_l h26 (by decide)) (cw_s h26 (by decide) rfl) (by unfold vp_in; decide +kernel) ?_
  rw [show Int32.toNatClampNeg 10 = 10 from by decide +kernel]
  have h27 : Cw 24 Lj24 fs30 gs20 (wJ M26 15 10 6385252) := cw_J h26 (by decide)
  generalize (wJ M26 15 10 6385252) = M27 at h27 ⊢
  refine a_iinc (v := 11) dX6_init_123 rfl (by decide) (Nat.le_of_ble_eq_true rfl) (lv2 := [(3, .int 11), (6, .int 3), (4, .long 6385252), (0, .ref 14), (1, .ref 2), (2, .ref 1)]) rfl ?_
  refine a_goto 73 dX6_init_126 (by decide) ?_
  refine a_iload_n dX6_init_73 rfl rfl ?_
  refine a_bipush (v := 22) dX6_init_74 (by decide) ?_
  refine a_icmp_ge 129 dX6_init_76 (by decide) (fun c => absurd c (by decide)) (fun _ => ?_)
  refine a_lconst (v := 0) dX6_init_79 (by decide) ?_
  refine a_lstore dX6_init_80 (Nat.le_of_ble_eq_true rfl) (lv2 := [(4, .long 0), (3, .int 11), (6, .int 3), (0, .ref 14), (1, .ref 2), (2, .ref 1)]) rfl ?_
  refine a_iconst (v := 0) dX6_init_82 (by decide) ?_
  refine a_istore dX6_init_83 (Nat.le_of_ble_eq_true rfl) (lv2 := [(6, .int 0), (4, .long 0), (3, .int 11), (0, .ref 14), (1, .ref 2), (2, .ref 1)]) rfl ?_
  refine a_iload dX6_init_85 rfl ?_
  refine a_iload_n dX6_init_87 rfl rfl ?_
  refine a_callS (As := [.int 11]) (st := [.int 0]) (bc := 0) (bs := 0) (mc := 0) (ms := 0) true dX6_init_88 mw_X10_wordLength rfl (Or.inr ⟨rfl, mn_X6_46⟩) sm_X10_wordLength rfl (by decide) (k_wordLength (fr := fr + 4) 11) (fun v M1 hq => ?_)
  obtain ⟨rfl, hM1⟩ := hq
  rw [hM1]
  clear hM1 M1
  refine a_st (st2 := [.int 2, .int 0]) (by decide +kernel) ?_
  refine a_icmp_ge 115 dX6_init_91 (by decide) (fun c => absurd c (by decide)) (fun _ => ?_)
  refine a_lload dX6_init_94 rfl ?_
  refine a_bipush (v := 8) dX6_init_96 (by decide) ?_
  refine a_lshl dX6_init_98 ?_
  refine a_st (st2 := [.long 0]) (by decide) ?_
  refine a_iload_n dX6_init_99 rfl rfl ?_
  refine a_iload dX6_init_100 rfl ?_
  refine a_callS (As := [.int 11, .int 0]) (st := [.long 0]) (bc := 0) (bs := 0) (mc := 0) (ms := 0) true dX6_init_102 mw_X10_wordLetter rfl (Or.inr ⟨rfl, mn_X6_50⟩) sm_X10_wordLetter rfl (by decide) (k_wordLetter (fr := fr) (c := 11) (i := 0) (by decide) (by decide) (by decide) (by decide +kernel) (by unfold vp_in; decide +kernel)) (fun v M1 hq => ?_)
  obtain ⟨rfl, hM1⟩ := hq
  rw [hM1]
  clear hM1 M1
  refine a_st (st2 := [.int 111, .long 0]) (by decide +kernel) ?_
  refine a_i2l dX6_init_105 ?_
  refine a_st (st2 := [.long 111, .long 0]) (by decide) ?_
  refine a_lor dX6_init_106 ?_
  refine a_st (st2 := [.long 111]) (by decide) ?_
  refine a_lstore dX6_init_107 (Nat.le_of_ble_eq_true rfl) (lv2 := [(4, .long 111), (6, .int 0), (3, .int 11), (0, .ref 14), (1, .ref 2), (2, .ref 1)]) rfl ?_
  refine a_iinc (v := 1) dX6_init_109 rfl (by decide) (Nat.le_of_ble_eq_true rfl) (lv2 := [(6, .int 1), (4, .long 111), (3, .int 11), (0, .ref 14), (1, .ref 2), (2, .ref 1)]) rfl ?_
  refine a_goto 85 dX6_init_112 (by decide) ?_
  refine a_iload dX6_init_85 rfl ?_
  refine a_iload_n dX6_init_87 rfl rfl ?_
  refine a_callS (As := [.int 11]) (st := [.int 1]) (bc := 0) (bs := 0) (mc := 0) (ms := 0) true dX6_init_88 mw_X10_wordLength rfl (Or.inr ⟨rfl, mn_X6_46⟩) sm_X10_wordLength rfl (by decide) (k_wordLength (fr := fr + 4) 11) (fun v M1 hq => ?_)
  obtain ⟨rfl, hM1⟩ := hq
  rw [hM1]
  clear hM1 M1
  refine a_st (st2 := [.int 2, .int 1]) (by decide +kernel) ?_
  refine a_icmp_ge 115 dX6_init_91 (by decide) (fun c => absurd c (by decide)) (fun _ => ?_)
  refine a_lload dX6_init_94 rfl ?_
  refine a_bipush (v := 8) dX6_init_96 (by decide) ?_
  refine a_lshl dX6_init_98 ?_
  refine a_st (st2 := [.long 28416]) (by decide) ?_
  refine a_iload_n dX6_init_99 rfl rfl ?_
  refine a_iload dX6_init_100 rfl ?_
  refine a_callS (As := [.int 11, .int 1]) (st := [.long 28416]) (bc := 0) (bs := 0) (mc := 0) (ms := 0) true dX6_init_102 mw_X10_wordLetter rfl (Or.inr ⟨rfl, mn_X6_50⟩) sm_X10_wordLetter rfl (by decide) (k_wordLetter (fr := fr) (c := 11) (i := 1) (by decide) (by decide) (by decide) (by decide +kernel) (by unfold vp_in; decide +kernel)) (fun v M1 hq => ?_)
  obtain ⟨rfl, hM1⟩ := hq
  rw [hM1]
  clear hM1 M1
  refine a_st (st2 := [.int 114, .long 28416]) (by decide +kernel) ?_
  refine a_i2l dX6_init_105 ?_
  refine a_st (st2 := [.long 114, .long 28416]) (by decide) ?_
  refine a_lor dX6_init_106 ?_
  refine a_st (st2 := [.long 28530]) (by decide) ?_
  refine a_lstore dX6_init_107 (Nat.le_of_ble_eq_true rfl) (lv2 := [(4, .long 28530), (6, .int 1), (3, .int 11), (0, .ref 14), (1, .ref 2), (2, .ref 1)]) rfl ?_
  refine a_iinc (v := 2) dX6_init_109 rfl (by decide) (Nat.le_of_ble_eq_true rfl) (lv2 := [(6, .int 2), (4, .long 28530), (3, .int 11), (0, .ref 14), (1, .ref 2), (2, .ref 1)]) rfl ?_
  refine a_goto 85 dX6_init_112 (by decide) ?_
  refine a_iload dX6_init_85 rfl ?_
  refine a_iload_n dX6_init_87 rfl rfl ?_
  refine a_callS (As := [.int 11]) (st := [.int 2]) (bc := 0) (bs := 0) (mc := 0) (ms := 0) true dX6_init_88 mw_X10_wordLength rfl (Or.inr ⟨rfl, mn_X6_46⟩) sm_X10_wordLength rfl (by decide) (k_wordLength (fr := fr + 4) 11) (fun v M1 hq => ?_)
  obtain ⟨rfl, hM1⟩ := hq
  rw [hM1]
  clear hM1 M1
  refine a_st (st2 := [.int 2, .int 2]) (by decide +kernel) ?_
  refine a_icmp_ge 115 dX6_init_91 (by decide) (fun _ => ?_) (fun c => absurd c (by decide))
  refine a_aload_n dX6_init_115 rfl rfl ?_
  refine a_get (v := .ref 15) dX6_init_116 fl_6_9 (cw_l h27 (by decide)) (cw_s h27 (by decide) rfl) (cw_g h27 rfl (by decide +kernel)) ?_
  refine a_iload_n dX6_init_119 rfl rfl ?_
  refine a_lload dX6_init_120 rfl ?_
  refine a_lastore dX6_init_122 (cw_l h27 (by decide)) (cw_s h27 (by decide) rfl) (by unfold vp_in; decide +kernel) ?_
  rw [show Int32.toNatClampNeg 11 = 11 from by decide +kernel]
  have h28 : Cw 24 Lj24 fs30 gs21 (wJ M27 15 11 28530) := cw_J h27 (by decide)
  generalize (wJ M27 15 11 28530) = M28 at h28 ⊢
  refine a_iinc (v := 12) dX6_init_123 rfl (by decide) (Nat.le_of_ble_eq_true rfl) (lv2 := [(3, .int 12), (6, .int 2), (4, .long 28530), (0, .ref 14), (1, .ref 2), (2, .ref 1)]) rfl ?_
  refine a_goto 73 dX6_init_126 (by decide) ?_
  refine a_iload_n dX6_init_73 rfl rfl ?_
  refine a_bipush (v := 22) dX6_init_74 (by decide) ?_
  refine a_icmp_ge 129 dX6_init_76 (by decide) (fun c => absurd c (by decide)) (fun _ => ?_)
  refine a_lconst (v := 0) dX6_init_79 (by decide) ?_
  refine a_lstore dX6_init_80 (Nat.le_of_ble_eq_true rfl) (lv2 := [(4, .long 0), (3, .int 12), (6, .int 2), (0, .ref 14), (1, .ref 2), (2, .ref 1)]) rfl ?_
  refine a_iconst (v := 0) dX6_init_82 (by decide) ?_
  refine a_istore dX6_init_83 (Nat.le_of_ble_eq_true rfl) (lv2 := [(6, .int 0), (4, .long 0), (3, .int 12), (0, .ref 14), (1, .ref 2), (2, .ref 1)]) rfl ?_
  refine a_iload dX6_init_85 rfl ?_
  refine a_iload_n dX6_init_87 rfl rfl ?_
  refine a_callS (As := [.int 12]) (st := [.int 0]) (bc := 0) (bs := 0) (mc := 0) (ms := 0) true dX6_init_88 mw_X10_wordLength rfl (Or.inr ⟨rfl, mn_X6_46⟩) sm_X10_wordLength rfl (by decide) (k_wordLength (fr := fr + 4) 12) (fun v M1 hq => ?_)
  obtain ⟨rfl, hM1⟩ := hq
  rw [hM1]
  clear hM1 M1
  refine a_st (st2 := [.int 3, .int 0]) (by decide +kernel) ?_
  refine a_icmp_ge 115 dX6_init_91 (by decide) (fun c => absurd c (by decide)) (fun _ => ?_)
  refine a_lload dX6_init_94 rfl ?_
  refine a_bipush (v := 8) dX6_init_96 (by decide) ?_
  refine a_lshl dX6_init_98 ?_
  refine a_st (st2 := [.long 0]) (by decide) ?_
  refine a_iload_n dX6_init_99 rfl rfl ?_
  refine a_iload dX6_init_100 rfl ?_
  refine a_callS (As := [.int 12, .int 0]) (st := [.long 0]) (bc := 0) (bs := 0) (mc := 0) (ms := 0) true dX6_init_102 mw_X10_wordLetter rfl (Or.inr ⟨rfl, mn_X6_50⟩) sm_X10_wordLetter rfl (by decide) (k_wordLetter (fr := fr) (c := 12) (i := 0) (by decide) (by decide) (by decide) (by decide +kernel) (by unfold vp_in; decide +kernel)) (fun v M1 hq => ?_)
  obtain ⟨rfl, hM1⟩ := hq
  rw [hM1]
  clear hM1 M1
  refine a_st (st2 := [.int 110, .long 0]) (by decide +kernel) ?_
  refine a_i2l dX6_init_105 ?_
  refine a_st (st2 := [.long 110, .long 0]) (by decide) ?_
  refine a_lor dX6_init_106 ?_
  refine a_st (st2 := [.long 110]) (by decide) ?_
  refine a_lstore dX6_init_107 (Nat.le_of_ble_eq_true rfl) (lv2 := [(4, .long 110), (6, .int 0), (3, .int 12), (0, .ref 14), (1, .ref 2), (2, .ref 1)]) rfl ?_
  refine a_iinc (v := 1) dX6_init_109 rfl (by decide) (Nat.le_of_ble_eq_true rfl) (lv2 := [(6, .int 1), (4, .long 110), (3, .int 12), (0, .ref 14), (1, .ref 2), (2, .ref 1)]) rfl ?_
  refine a_goto 85 dX6_init_112 (by decide) ?_
  refine a_iload dX6_init_85 rfl ?_
  refine a_iload_n dX6_init_87 rfl rfl ?_
  refine a_callS (As := [.int 12]) (st := [.int 1]) (bc := 0) (bs := 0) (mc := 0) (ms := 0) true dX6_init_88 mw_X10_wordLength rfl (Or.inr ⟨rfl, mn_X6_46⟩) sm_X10_wordLength rfl (by decide) (k_wordLength (fr := fr + 4) 12) (fun v M1 hq => ?_)
  obtain ⟨rfl, hM1⟩ := hq
  rw [hM1]
  clear hM1 M1
  refine a_st (st2 := [.int 3, .int 1]) (by decide +kernel) ?_
  refine a_icmp_ge 115 dX6_init_91 (by decide) (fun c => absurd c (by decide)) (fun _ => ?_)
  refine a_lload dX6_init_94 rfl ?_
  refine a_bipush (v := 8) dX6_init_96 (by decide) ?_
  refine a_lshl dX6_init_98 ?_
  refine a_st (st2 := [.long 28160]) (by decide) ?_
  refine a_iload_n dX6_init_99 rfl rfl ?_
  refine a_iload dX6_init_100 rfl ?_
  refine a_callS (As := [.int 12, .int 1]) (st := [.long 28160]) (bc := 0) (bs := 0) (mc := 0) (ms := 0) true dX6_init_102 mw_X10_wordLetter rfl (Or.inr ⟨rfl, mn_X6_50⟩) sm_X10_wordLetter rfl (by decide) (k_wordLetter (fr := fr) (c := 12) (i := 1) (by decide) (by decide) (by decide) (by decide +kernel) (by unfold vp_in; decide +kernel)) (fun v M1 hq => ?_)
  obtain ⟨rfl, hM1⟩ := hq
  rw [hM1]
  clear hM1 M1
  refine a_st (st2 := [.int 111, .long 28160]) (by decide +kernel) ?_
  refine a_i2l dX6_init_105 ?_
  refine a_st (st2 := [.long 111, .long 28160]) (by decide) ?_
  refine a_lor dX6_init_106 ?_
  refine a_st (st2 := [.long 28271]) (by decide) ?_
  refine a_lstore dX6_init_107 (Nat.le_of_ble_eq_true rfl) (lv2 := [(4, .long 28271), (6, .int 1), (3, .int 12), (0, .ref 14), (1, .ref 2), (2, .ref 1)]) rfl ?_
  refine a_iinc (v := 2) dX6_init_109 rfl (by decide) (Nat.le_of_ble_eq_true rfl) (lv2 := [(6, .int 2), (4, .long 28271), (3, .int 12), (0, .ref 14), (1, .ref 2), (2, .ref 1)]) rfl ?_
  refine a_goto 85 dX6_init_112 (by decide) ?_
  refine a_iload dX6_init_85 rfl ?_
  refine a_iload_n dX6_init_87 rfl rfl ?_
  refine a_callS (As := [.int 12]) (st := [.int 2]) (bc := 0) (bs := 0) (mc := 0) (ms := 0) true dX6_init_88 mw_X10_wordLength rfl (Or.inr ⟨rfl, mn_X6_46⟩) sm_X10_wordLength rfl (by decide) (k_wordLength (fr := fr + 4) 12) (fun v M1 hq => ?_)
  obtain ⟨rfl, hM1⟩ := hq
  rw [hM1]
  clear hM1 M1
  refine a_st (st2 := [.int 3, .int 2]) (by decide +kernel) ?_
  refine a_icmp_ge 115 dX6_init_91 (by decide) (fun c => absurd c (by decide)) (fun _ => ?_)
  refine a_lload dX6_init_94 rfl ?_
  refine a_bipush (v := 8) dX6_init_96 (by decide) ?_
  refine a_lshl dX6_init_98 ?_
  refine a_st (st2 := [.long 7237376]) (by decide) ?_
  refine a_iload_n dX6_init_99 rfl rfl ?_
  refine a_iload dX6_init_100 rfl ?_
  refine a_callS (As := [.int 12, .int 2]) (st := [.long 7237376]) (bc := 0) (bs := 0) (mc := 0) (ms := 0) true dX6_init_102 mw_X10_wordLetter rfl (Or.inr ⟨rfl, mn_X6_50⟩) sm_X10_wordLetter rfl (by decide) (k_wordLetter (fr := fr) (c := 12) (i := 2) (by decide) (by decide) (by decide) (by decide +kernel) (by unfold vp_in; decide +kernel)) (fun v M1 hq => ?_)
  obtain ⟨rfl, hM1⟩ := hq
  rw [hM1]
  clear hM1 M1
  refine a_st (st2 := [.int 116, .long 7237376]) (by decide +kernel) ?_
  refine a_i2l dX6_init_105 ?_
  refine a_st (st2 := [.long 116, .long 7237376]) (by decide) ?_
  refine a_lor dX6_init_106 ?_
  refine a_st (st2 := [.long 7237492]) (by decide) ?_
  refine a_lstore dX6_init_107 (Nat.le_of_ble_eq_true rfl) (lv2 := [(4, .long 7237492), (6, .int 2), (3, .int 12), (0, .ref 14), (1, .ref 2), (2, .ref 1)]) rfl ?_
  refine a_iinc (v := 3) dX6_init_109 rfl (by decide) (Nat.le_of_ble_eq_true rfl) (lv2 := [(6, .int 3), (4, .long 7237492), (3, .int 12), (0, .ref 14), (1, .ref 2), (2, .ref 1)]) rfl ?_
  refine a_goto 85 dX6_init_112 (by decide) ?_
  refine a_iload dX6_init_85 rfl ?_
  refine a_iload_n dX6_init_87 rfl rfl ?_
  refine a_callS (As := [.int 12]) (st := [.int 3]) (bc := 0) (bs := 0) (mc := 0) (ms := 0) true dX6_init_88 mw_X10_wordLength rfl (Or.inr ⟨rfl, mn_X6_46⟩) sm_X10_wordLength rfl (by decide) (k_wordLength (fr := fr + 4) 12) (fun v M1 hq => ?_)
  obtain ⟨rfl, hM1⟩ := hq
  rw [hM1]
  clear hM1 M1
  refine a_st (st2 := [.int 3, .int 3]) (by decide +kernel) ?_
  refine a_icmp_ge 115 dX6_init_91 (by decide) (fun _ => ?_) (fun c => absurd c (by decide))
  refine a_aload_n dX6_init_115 rfl rfl ?_
  refine a_get (v := .ref 15) dX6_init_116 fl_6_9 (cw_l h28 (by decide)) (cw_s h28 (by decide) rfl) (cw_g h28 rfl (by decide +kernel)) ?_
  refine a_iload_n dX6_init_119 rfl rfl ?_
  refine a_lload dX6_init_120 rfl ?_
  refine a_lastore dX6_init_122 (cw_l h28 (by decide)) (cw_s h28 (by decide) rfl) (by unfold vp_in; decide +kernel) ?_
  rw [show Int32.toNatClampNeg 12 = 12 from by decide +kernel]
  have h29 : Cw 24 Lj24 fs30 gs22 (wJ M28 15 12 7237492) := cw_J h28 (by decide)
  generalize (wJ M28 15 12 7237492) = M29 at h29 ⊢
  refine a_iinc (v := 13) dX6_init_123 rfl (by decide) (Nat.le_of_ble_eq_true rfl) (lv2 := [(3, .int 13), (6, .int 3), (4, .long 7237492), (0, .ref 14), (1, .ref 2), (2, .ref 1)]) rfl ?_
  refine a_goto 73 dX6_init_126 (by decide) ?_
  refine a_iload_n dX6_init_73 rfl rfl ?_
  refine a_bipush (v := 22) dX6_init_74 (by decide) ?_
  refine a_icmp_ge 129 dX6_init_76 (by decide) (fun c => absurd c (by decide)) (fun _ => ?_)
  refine a_lconst (v := 0) dX6_init_79 (by decide) ?_
  refine a_lstore dX6_init_80 (Nat.le_of_ble_eq_true rfl) (lv2 := [(4, .long 0), (3, .int 13), (6, .int 3), (0, .ref 14), (1, .ref 2), (2, .ref 1)]) rfl ?_
  refine a_iconst (v := 0) dX6_init_82 (by decide) ?_
  refine a_istore dX6_init_83 (Nat.le_of_ble_eq_true rfl) (lv2 := [(6, .int 0), (4, .long 0), (3, .int 13), (0, .ref 14), (1, .ref 2), (2, .ref 1)]) rfl ?_
  refine a_iload dX6_init_85 rfl ?_
  refine a_iload_n dX6_init_87 rfl rfl ?_
  refine a_callS (As := [.int 13]) (st := [.int 0]) (bc := 0) (bs := 0) (mc := 0) (ms := 0) true dX6_init_88 mw_X10_wordLength rfl (Or.inr ⟨rfl, mn_X6_46⟩) sm_X10_wordLength rfl (by decide) (k_wordLength (fr := fr + 4) 13) (fun v M1 hq => ?_)
  obtain ⟨rfl, hM1⟩ := hq
  rw [hM1]
  clear hM1 M1
  refine a_st (st2 := [.int 3, .int 0]) (by decide +kernel) ?_
  refine a_icmp_ge 115 dX6_init_91 (by decide) (fun c => absurd c (by decide)) (fun _ => ?_)
  refine a_lload dX6_init_94 rfl ?_
  refine a_bipush (v := 8) dX6_init_96 (by decide) ?_
  refine a_lshl dX6_init_98 ?_
  refine a_st (st2 := [.long 0]) (by decide) ?_
  refine a_iload_n dX6_init_99 rfl rfl ?_
  refine a_iload dX6_init_100 rfl ?_
  refine a_callS (As := [.int 13, .int 0]) (st := [.long 0]) (bc := 0) (bs := 0) (mc := 0) (ms := 0) true dX6_init_102 mw_X10_wordLetter rfl (Or.inr ⟨rfl, mn_X6_50⟩) sm_X10_wordLetter rfl (by decide) (k_wordLetter (fr := fr) (c := 13) (i := 0) (by decide) (by decide) (by decide) (by decide +kernel) (by unfold vp_in; decide +kernel)) (fun v M1 hq => ?_)
  obtain ⟨rfl, hM1⟩ := hq
  rw [hM1]
  clear hM1 M1
  refine a_st (st2 := [.int 102, .long 0]) (by decide +kernel) ?_
  refine a_i2l dX6_init_105 ?_
  refine a_st (st2 := [.long 102, .long 0]) (by decide) ?_
  refine a_lor dX6_init_106 ?_
  refine a_st (st2 := [.long 102]) (by decide) ?_
  refine a_lstore dX6_init_107 (Nat.le_of_ble_eq_true rfl) (lv2 := [(4, .long 102), (6, .int 0), (3, .int 13), (0, .ref 14), (1, .ref 2), (2, .ref 1)]) rfl ?_
  refine a_iinc (v := 1) dX6_init_109 rfl (by decide) (Nat.le_of_ble_eq_true rfl) (lv2 := [(6, .int 1), (4, .long 102), (3, .int 13), (0, .ref 14), (1, .ref 2), (2, .ref 1)]) rfl ?_
  refine a_goto 85 dX6_init_112 (by decide) ?_
  refine a_iload dX6_init_85 rfl ?_
  refine a_iload_n dX6_init_87 rfl rfl ?_
  refine a_callS (As := [.int 13]) (st := [.int 1]) (bc := 0) (bs := 0) (mc := 0) (ms := 0) true dX6_init_88 mw_X10_wordLength rfl (Or.inr ⟨rfl, mn_X6_46⟩) sm_X10_wordLength rfl (by decide) (k_wordLength (fr := fr + 4) 13) (fun v M1 hq => ?_)
  obtain ⟨rfl, hM1⟩ := hq
  rw [hM1]
  clear hM1 M1
  refine a_st (st2 := [.int 3, .int 1]) (by decide +kernel) ?_
  refine a_icmp_ge 115 dX6_init_91 (by decide) (fun c => absurd c (by decide)) (fun _ => ?_)
  refine a_lload dX6_init_94 rfl ?_
  refine a_bipush (v := 8) dX6_init_96 (by decide) ?_
  refine a_lshl dX6_init_98 ?_
  refine a_st (st2 := [.long 26112]) (by decide) ?_
  refine a_iload_n dX6_init_99 rfl rfl ?_
  refine a_iload dX6_init_100 rfl ?_
  refine a_callS (As := [.int 13, .int 1]) (st := [.long 26112]) (bc := 0) (bs := 0) (mc := 0) (ms := 0) true dX6_init_102 mw_X10_wordLetter rfl (Or.inr ⟨rfl, mn_X6_50⟩) sm_X10_wordLetter rfl (by decide) (k_wordLetter (fr := fr) (c := 13) (i := 1) (by decide) (by decide) (by decide) (by decide +kernel) (by unfold vp_in; decide +kernel)) (fun v M1 hq => ?_)
  obtain ⟨rfl, hM1⟩ := hq
  rw [hM1]
  clear hM1 M1
  refine a_st (st2 := [.int 117, .long 26112]) (by decide +kernel) ?_
  refine a_i2l dX6_init_105 ?_
  refine a_st (st2 := [.long 117, .long 26112]) (by decide) ?_
  refine a_lor dX6_init_106 ?_
  refine a_st (st2 := [.long 26229]) (by decide) ?_
  refine a_lstore dX6_init_107 (Nat.le_of_ble_eq_true rfl) (lv2 := [(4, .long 26229), (6, .int 1), (3, .int 13), (0, .ref 14), (1, .ref 2), (2, .ref 1)]) rfl ?_
  refine a_iinc (v := 2) dX6_init_109 rfl (by decide) (Nat.le_of_ble_eq_true rfl) (lv2 := [(6, .int 2), (4, .long 26229), (3, .int 13), (0, .ref 14), (1, .ref 2), (2, .ref 1)]) rfl ?_
  refine a_goto 85 dX6_init_112 (by decide) ?_
  refine a_iload dX6_init_85 rfl ?_
  refine a_iload_n dX6_init_87 rfl rfl ?_
  refine a_callS (As := [.int 13]) (st := [.int 2]) (bc := 0) (bs := 0) (mc := 0) (ms := 0) true dX6_init_88 mw_X10_wordLength rfl (Or.inr ⟨rfl, mn_X6_46⟩) sm_X10_wordLength rfl (by decide) (k_wordLength (fr := fr + 4) 13) (fun v M1 hq => ?_)
  obtain ⟨rfl, hM1⟩ := hq
  rw [hM1]
  clear hM1 M1
  refine a_st (st2 := [.int 3, .int 2]) (by decide +kernel) ?_
  refine a_icmp_ge 115 dX6_init_91 (by decide) (fun c => absurd c (by decide)) (fun _ => ?_)
  refine a_lload dX6_init_94 rfl ?_
  refine a_bipush (v := 8) dX6_init_96 (by decide) ?_
  refine a_lshl dX6_init_98 ?_
  refine a_st (st2 := [.long 6714624]) (by decide) ?_
  refine a_iload_n dX6_init_99 rfl rfl ?_
  refine a_iload dX6_init_100 rfl ?_
  refine a_callS (As := [.int 13, .int 2]) (st := [.long 6714624]) (bc := 0) (bs := 0) (mc := 0) (ms := 0) true dX6_init_102 mw_X10_wordLetter rfl (Or.inr ⟨rfl, mn_X6_50⟩) sm_X10_wordLetter rfl (by decide) (k_wordLetter (fr := fr) (c := 13) (i := 2) (by decide) (by decide) (by decide) (by decide +kernel) (by unfold vp_in; decide +kernel)) (fun v M1 hq => ?_)
  obtain ⟨rfl, hM1⟩ := hq
  rw [hM1]
  clear hM1 M1
  refine a_st (st2 := [.int 110, .long 6714624]) (by decide +kernel) ?_
  refine a_i2l dX6_init_105 ?_
  refine a_st (st2 := [.long 110, .long 6714624]) (by decide) ?_
  refine a_lor dX6_init_106 ?_
  refine a_st (st2 := [.long 6714734]) (by decide) ?_
  refine a_lstore dX6_init_107 (Nat.le_of_ble_eq_true rfl) (lv2 := [(4, .long 6714734), (6, .int 2), (3, .int 13), (0, .ref 14), (1, .ref 2), (2, .ref 1)]) rfl ?_
  refine a_iinc (v := 3) dX6_init_109 rfl (by decide) (Nat.le_of_ble_eq_true rfl) (lv2 := [(6, .int 3), (4, .long 6714734), (3, .int 13), (0, .ref 14), (1, .ref 2), (2, .ref 1)]) rfl ?_
  refine a_goto 85 dX6_init_112 (by decide) ?_
  refine a_iload dX6_init_85 rfl ?_
  refine a_iload_n dX6_init_87 rfl rfl ?_
  refine a_callS (As := [.int 13]) (st := [.int 3]) (bc := 0) (bs := 0) (mc := 0) (ms := 0) true dX6_init_88 mw_X10_wordLength rfl (Or.inr ⟨rfl, mn_X6_46⟩) sm_X10_wordLength rfl (by decide) (k_wordLength (fr := fr + 4) 13) (fun v M1 hq => ?_)
  obtain ⟨rfl, hM1⟩ := hq
  rw [hM1]
  clear hM1 M1
  refine a_st (st2 := [.int 3, .int 3]) (by decide +kernel) ?_
  refine a_icmp_ge 115 dX6_init_91 (by decide) (fun _ => ?_) (fun c => absurd c (by decide))
  refine a_aload_n dX6_init_115 rfl rfl ?_
  refine a_get (v := .ref 15) dX6_init_116 fl_6_9 (cw_l h29 (by decide)) (cw_s h29 (by decide) rfl) (cw_g h29 rfl (by decide +kernel)) ?_
  refine a_iload_n dX6_init_119 rfl rfl ?_
  refine a_lload dX6_init_120 rfl ?_
  refine a_lastore dX6_init_122 (cw_l h29 (by decide)) (cw_s h29 (by decide) rfl) (by unfold vp_in; decide +kernel) ?_
  rw [show Int32.toNatClampNeg 13 = 13 from by decide +kernel]
  have h30 : Cw 24 Lj24 fs30 gs23 (wJ M29 15 13 6714734) := cw_J h29 (by decide)
  generalize (wJ M29 15 13 6714734) = M30 at h30 ⊢
  refine a_iinc (v := 14) dX6_init_123 rfl (by decide) (Nat.le_of_ble_eq_true rfl) (lv2 := [(3, .int 14), (6, .int 3), (4, .long 6714734), (0, .ref 14), (1, .ref 2), (2, .ref 1)]) rfl ?_
  refine a_goto 73 dX6_init_126 (by decide) ?_
  refine a_iload_n dX6_init_73 rfl rfl ?_
  refine a_bipush (v := 22) dX6_init_74 (by decide) ?_
  refine a_icmp_ge 129 dX6_init_76 (by decide) (fun c => absurd c (by decide)) (fun _ => ?_)
  refine a_lconst (v := 0) dX6_init_79 (by decide) ?_
  refine a_lstore dX6_init_80 (Nat.le_of_ble_eq_true rfl) (lv2 := [(4, .long 0), (3, .int 14), (6, .int 3), (0, .ref 14), (1, .ref 2), (2, .ref 1)]) rfl ?_
  refine a_iconst (v := 0) dX6_init_82 (by decide) ?_
  refine a_istore dX6_init_83 (Nat.le_of_ble_eq_true rfl) (lv2 := [(6, .int 0), (4, .long 0), (3, .int 14), (0, .ref 14), (1, .ref 2), (2, .ref 1)]) rfl ?_
  refine a_iload dX6_init_85 rfl ?_
  refine a_iload_n dX6_init_87 rfl rfl ?_
  refine a_callS (As := [.int 14]) (st := [.int 0]) (bc := 0) (bs := 0) (mc := 0) (ms := 0) true dX6_init_88 mw_X10_wordLength rfl (Or.inr ⟨rfl, mn_X6_46⟩) sm_X10_wordLength rfl (by decide) (k_wordLength (fr := fr + 4) 14) (fun v M1 hq => ?_)
  obtain ⟨rfl, hM1⟩ := hq
  rw [hM1]
  clear hM1 M1
  refine a_st (st2 := [.int 3, .int 0]) (by decide +kernel) ?_
  refine a_icmp_ge 115 dX6_init_91 (by decide) (fun c => absurd c (by decide)) (fun _ => ?_)
  refine a_lload dX6_init_94 rfl ?_
  refine a_bipush (v := 8) dX6_init_96 (by decide) ?_
  refine a_lshl dX6_init_98 ?_
  refine a_st (st2 := [.long 0]) (by decide) ?_
  refine a_iload_n dX6_init_99 rfl rfl ?_
  refine a_iload dX6_init_100 rfl ?_
  refine a_callS (As := [.int 14, .int 0]) (st := [.long 0]) (bc := 0) (bs := 0) (mc := 0) (ms := 0) true dX6_init_102 mw_X10_wordLetter rfl (Or.inr ⟨rfl, mn_X6_50⟩) sm_X10_wordLetter rfl (by decide) (k_wordLetter (fr := fr) (c := 14) (i := 0) (by decide) (by decide) (by decide) (by decide +kernel) (by unfold vp_in; decide +kernel)) (fun v M1 hq => ?_)
  obtain ⟨rfl, hM1⟩ := hq
  rw [hM1]
  clear hM1 M1
  refine a_st (st2 := [.int 97, .long 0]) (by decide +kernel) ?_
  refine a_i2l dX6_init_105 ?_
  refine a_st (st2 := [.long 97, .long 0]) (by decide) ?_
  refine a_lor dX6_init_106 ?_
  refine a_st (st2 := [.long 97]) (by decide) ?_
  refine a_lstore dX6_init_107 (Nat.le_of_ble_eq_true rfl) (lv2 := [(4, .long 97), (6, .int 0), (3, .int 14), (0, .ref 14), (1, .ref 2), (2, .ref 1)]) rfl ?_
  refine a_iinc (v := 1) dX6_init_109 rfl (by decide) (Nat.le_of_ble_eq_true rfl) (lv2 := [(6, .int 1), (4, .long 97), (3, .int 14), (0, .ref 14), (1, .ref 2), (2, .ref 1)]) rfl ?_
  refine a_goto 85 dX6_init_112 (by decide) ?_
  refine a_iload dX6_init_85 rfl ?_
  refine a_iload_n dX6_init_87 rfl rfl ?_
  refine a_callS (As := [.int 14]) (st := [.int 1]) (bc := 0) (bs := 0) (mc := 0) (ms := 0) true dX6_init_88 mw_X10_wordLength rfl (Or.inr ⟨rfl, mn_X6_46⟩) sm_X10_wordLength rfl (by decide) (k_wordLength (fr := fr + 4) 14) (fun v M1 hq => ?_)
  obtain ⟨rfl, hM1⟩ := hq
  rw [hM1]
  clear hM1 M1
  refine a_st (st2 := [.int 3, .int 1]) (by decide +kernel) ?_
  refine a_icmp_ge 115 dX6_init_91 (by decide) (fun c => absurd c (by decide)) (fun _ => ?_)
  refine a_lload dX6_init_94 rfl ?_
  refine a_bipush (v := 8) dX6_init_96 (by decide) ?_
  refine a_lshl dX6_init_98 ?_
  refine a_st (st2 := [.long 24832]) (by decide) ?_
  refine a_iload_n dX6_init_99 rfl rfl ?_
  refine a_iload dX6_init_100 rfl ?_
  refine a_callS (As := [.int 14, .int 1]) (st := [.long 24832]) (bc := 0) (bs := 0) (mc := 0) (ms := 0) true dX6_init_102 mw_X10_wordLetter rfl (Or.inr ⟨rfl, mn_X6_50⟩) sm_X10_wordLetter rfl (by decide) (k_wordLetter (fr := fr) (c := 14) (i := 1) (by decide) (by decide) (by decide) (by decide +kernel) (by unfold vp_in; decide +kernel)) (fun v M1 hq => ?_)
  obtain ⟨rfl, hM1⟩ := hq
  rw [hM1]
  clear hM1 M1
  refine a_st (st2 := [.int 112, .long 24832]) (by decide +kernel) ?_
  refine a_i2l dX6_init_105 ?_
  refine a_st (st2 := [.long 112, .long 24832]) (by decide) ?_
  refine a_lor dX6_init_106 ?_
  refine a_st (st2 := [.long 24944]) (by decide) ?_
  refine a_lstore dX6_init_107 (Nat.le_of_ble_eq_true rfl) (lv2 := [(4, .long 24944), (6, .int 1), (3, .int 14), (0, .ref 14), (1, .ref 2), (2, .ref 1)]) rfl ?_
  refine a_iinc (v := 2) dX6_init_109 rfl (by decide) (Nat.le_of_ble_eq_true rfl) (lv2 := [(6, .int 2), (4, .long 24944), (3, .int 14), (0, .ref 14), (1, .ref 2), (2, .ref 1)]) rfl ?_
  refine a_goto 85 dX6_init_112 (by decide) ?_
  refine a_iload dX6_init_85 rfl ?_
  refine a_iload_n dX6_init_87 rfl rfl ?_
  refine a_callS (As := [.int 14]) (st := [.int 2]) (bc := 0) (bs := 0) (mc := 0) (ms := 0) true dX6_init_88 mw_X10_wordLength rfl (Or.inr ⟨rfl, mn_X6_46⟩) sm_X10_wordLength rfl (by decide) (k_wordLength (fr := fr + 4) 14) (fun v M1 hq => ?_)
  obtain ⟨rfl, hM1⟩ := hq
  rw [hM1]
  clear hM1 M1
  refine a_st (st2 := [.int 3, .int 2]) (by decide +kernel) ?_
  refine a_icmp_ge 115 dX6_init_91 (by decide) (fun c => absurd c (by decide)) (fun _ => ?_)
  refine a_lload dX6_init_94 rfl ?_
  refine a_bipush (v := 8) dX6_init_96 (by decide) ?_
  refine a_lshl dX6_init_98 ?_
  refine a_st (st2 := [.long 6385664]) (by decide) ?_
  refine a_iload_n dX6_init_99 rfl rfl ?_
  refine a_iload dX6_init_100 rfl ?_
  refine a_callS (As := [.int 14, .int 2]) (st := [.long 6385664]) (bc := 0) (bs := 0) (mc := 0) (ms := 0) true dX6_init_102 mw_X10_wordLetter rfl (Or.inr ⟨rfl, mn_X6_50⟩) sm_X10_wordLetter rfl (by decide) (k_wordLetter (fr := fr) (c := 14) (i := 2) (by decide) (by decide) (by decide) (by decide +kernel) (by unfold vp_in; decide +kernel)) (fun v M1 hq => ?_)
  obtain ⟨rfl, hM1⟩ := hq
  rw [hM1]
  clear hM1 M1
  refine a_st (st2 := [.int 112, .long 6385664]) (by decide +kernel) ?_
  refine a_i2l dX6_init_105 ?_
  refine a_st (st2 := [.long 112, .long 6385664]) (by decide) ?_
  refine a_lor dX6_init_106 ?_
  refine a_st (st2 := [.long 6385776]) (by decide) ?_
  refine a_lstore dX6_init_107 (Nat.le_of_ble_eq_true rfl) (lv2 := [(4, .long 6385776), (6, .int 2), (3, .int 14), (0, .ref 14), (1, .ref 2), (2, .ref 1)]) rfl ?_
  refine a_iinc (v := 3) dX6_init_109 rfl (by decide) (Nat.le_of_ble_eq_true rfl) (lv2 := [(6, .int 3), (4, .long 6385776), (3, .int 14), (0, .ref 14), (1, .ref 2), (2, .ref 1)]) rfl ?_
  refine a_goto 85 dX6_init_112 (by decide) ?_
  refine a_iload dX6_init_85 rfl ?_
  refine a_iload_n dX6_init_87 rfl rfl ?_
  refine a_callS (As := [.int 14]) (st := [.int 3]) (bc := 0) (bs := 0) (mc := 0) (ms := 0) true dX6_init_88 mw_X10_wordLength rfl (Or.inr ⟨rfl, mn_X6_46⟩) sm_X10_wordLength rfl (by decide) (k_wordLength (fr := fr + 4) 14) (fun v M1 hq => ?_)
  obtain ⟨rfl, hM1⟩ := hq
  rw [hM1]
  clear hM1 M1
  refine a_st (st2 := [.int 3, .int 3]) (by decide +kernel) ?_
  refine a_icmp_ge 115 dX6_init_91 (by decide) (fun _ => ?_) (fun c => absurd c (by decide))
  refine a_aload_n dX6_init_115 rfl rfl ?_
  refine a_get (v := .ref 15) dX6_init_116 fl_6_9 (cw_l h30 (by decide)) (cw_s h30 (by decide) rfl) (cw_g h30 rfl (by decide +kernel)) ?_
  refine a_iload_n dX6_init_119 rfl rfl ?_
  refine a_lload dX6_init_120 rfl ?_
  refine a_lastore dX6_init_122 (cw_l h30 (by decide)) (cw_s h30 (by decide) rfl) (by unfold vp_in; decide +kernel) ?_
  rw [show Int32.toNatClampNeg 14 = 14 from by decide +kernel]
  have h31 : Cw 24 Lj24 fs30 gs24 (wJ M30 15 14 6385776) := cw_J h30 (by decide)
  generalize (wJ M30 15 14 6385776) = M31 at h31 ⊢
  refine a_iinc (v := 15) dX6_init_123 rfl (by decide) (Nat.le_of_ble_eq_true rfl) (lv2 := [(3, .int 15), (6, .int 3), (4, .long 6385776), (0, .ref 14), (1, .ref 2), (2, .ref 1)]) rfl ?_
  refine a_goto 73 dX6_init_126 (by decide) ?_
  refine a_iload_n dX6_init_73 rfl rfl ?_
  refine a_bipush (v := 22) dX6_init_74 (by decide) ?_
  refine a_icmp_ge 129 dX6_init_76 (by decide) (fun c => absurd c (by decide)) (fun _ => ?_)
  refine a_lconst (v := 0) dX6_init_79 (by decide) ?_
  refine a_lstore dX6_init_80 (Nat.le_of_ble_eq_true rfl) (lv2 := [(4, .long 0), (3, .int 15), (6, .int 3), (0, .ref 14), (1, .ref 2), (2, .ref 1)]) rfl ?_
  refine a_iconst (v := 0) dX6_init_82 (by decide) ?_
  refine a_istore dX6_init_83 (Nat.le_of_ble_eq_true rfl) (lv2 := [(6, .int 0), (4, .long 0), (3, .int 15), (0, .ref 14), (1, .ref 2), (2, .ref 1)]) rfl ?_
  refine a_iload dX6_init_85 rfl ?_
  refine a_iload_n dX6_init_87 rfl rfl ?_
  refine a_callS (As := [.int 15]) (st := [.int 0]) (bc := 0) (bs := 0) (mc := 0) (ms := 0) true dX6_init_88 mw_X10_wordLength rfl (Or.inr ⟨rfl, mn_X6_46⟩) sm_X10_wordLength rfl (by decide) (k_wordLength (fr := fr + 4) 15) (fun v M1 hq => ?_)
  obtain ⟨rfl, hM1⟩ := hq
  rw [hM1]
  clear hM1 M1
  refine a_st (st2 := [.int 4, .int 0]) (by decide +kernel) ?_
  refine a_icmp_ge 115 dX6_init_91 (by decide) (fun c => absurd c (by decide)) (fun _ => ?_)
  refine a_lload dX6_init_94 rfl ?_
  refine a_bipush (v := 8) dX6_init_96 (by decide) ?_
  refine a_lshl dX6_init_98 ?_
  refine a_st (st2 := [.long 0]) (by decide) ?_
  refine a_iload_n dX6_init_99 rfl rfl ?_
  refine a_iload dX6_init_100 rfl ?_
  refine a_callS (As := [.int 15, .int 0]) (st := [.long 0]) (bc := 0) (bs := 0) (mc := 0) (ms := 0) true dX6_init_102 mw_X10_wordLetter rfl (Or.inr ⟨rfl, mn_X6_50⟩) sm_X10_wordLetter rfl (by decide) (k_wordLetter (fr := fr) (c := 15) (i := 0) (by decide) (by decide) (by decide) (by decide +kernel) (by unfold vp_in; decide +kernel)) (fun v M1 hq => ?_)
  obtain ⟨rfl, hM1⟩ := hq
  rw [hM1]
  clear hM1 M1
  refine a_st (st2 := [.int 112, .long 0]) (by decide +kernel) ?_
  refine a_i2l dX6_init_105 ?_
  refine a_st (st2 := [.long 112, .long 0]) (by decide) ?_
  refine a_lor dX6_init_106 ?_
  refine a_st (st2 := [.long 112]) (by decide) ?_
  refine a_lstore dX6_init_107 (Nat.le_of_ble_eq_true rfl) (lv2 := [(4, .long 112), (6, .int 0), (3, .int 15), (0, .ref 14), (1, .ref 2), (2, .ref 1)]) rfl ?_
  refine a_iinc (v := 1) dX6_init_109 rfl (by decide) (Nat.le_of_ble_eq_true rfl) (lv2 := [(6, .int 1), (4, .long 112), (3, .int 15), (0, .ref 14), (1, .ref 2), (2, .ref 1)]) rfl ?_
  refine a_goto 85 dX6_init_112 (by decide) ?_
  refine a_iload dX6_init_85 rfl ?_
  refine a_iload_n dX6_init_87 rfl rfl ?_
  refine a_callS (As := [.int 15]) (st := [.int 1]) (bc := 0) (bs := 0) (mc := 0) (ms := 0) true dX6_init_88 mw_X10_wordLength rfl (Or.inr ⟨rfl, mn_X6_46⟩) sm_X10_wordLength rfl (by decide) (k_wordLength (fr := fr + 4) 15) (fun v M1 hq => ?_)
  obtain ⟨rfl, hM1⟩ := hq
  rw [hM1]
  clear hM1 M1
  refine a_st (st2 := [.int 4, .int 1]) (by decide +kernel) ?_
  refine a_icmp_ge 115 dX6_init_91 (by decide) (fun c => absurd c (by decide)) (fun _ => ?_)
  refine a_lload dX6_init_94 rfl ?_
  refine a_bipush (v := 8) dX6_init_96 (by decide) ?_
  refine a_lshl dX6_init_98 ?_
  refine a_st (st2 := [.long 28672]) (by decide) ?_
  refine a_iload_n dX6_init_99 rfl rfl ?_
  refine a_iload dX6_init_100 rfl ?_
  refine a_callS (As := [.int 15, .int 1]) (st := [.long 28672]) (bc := 0) (bs := 0) (mc := 0) (ms := 0) true dX6_init_102 mw_X10_wordLetter rfl (Or.inr ⟨rfl, mn_X6_50⟩) sm_X10_wordLetter rfl (by decide) (k_wordLetter (fr := fr) (c := 15) (i := 1) (by decide) (by decide) (by decide) (by decide +kernel) (by unfold vp_in; decide +kernel)) (fun v M1 hq => ?_)
  obtain ⟨rfl, hM1⟩ := hq
  rw [hM1]
  clear hM1 M1
  refine a_st (st2 := [.int 97, .long 28672]) (by decide +kernel) ?_
  refine a_i2l dX6_init_105 ?_
  refine a_st (st2 := [.long 97, .long 28672]) (by decide) ?_
  refine a_lor dX6_init_106 ?_
  refine a_st (st2 := [.long 28769]) (by decide) ?_
  refine a_lstore dX6_init_107 (Nat.le_of_ble_eq_true rfl) (lv2 := [(4, .long 28769), (6, .int 1), (3, .int 15), (0, .ref 14), (1, .ref 2), (2, .ref 1)]) rfl ?_
  refine a_iinc (v := 2) dX6_init_109 rfl (by decide) (Nat.le_of_ble_eq_true rfl) (lv2 := [(6, .int 2), (4, .long 28769), (3, .int 15), (0, .ref 14), (1, .ref 2), (2, .ref 1)]) rfl ?_
  refine a_goto 85 dX6_init_112 (by decide) ?_
  refine a_iload dX6_init_85 rfl ?_
  refine a_iload_n dX6_init_87 rfl rfl ?_
  refine a_callS (As := [.int 15]) (st := [.int 2]) (bc := 0) (bs := 0) (mc := 0) (ms := 0) true dX6_init_88 mw_X10_wordLength rfl (Or.inr ⟨rfl, mn_X6_46⟩) sm_X10_wordLength rfl (by decide) (k_wordLength (fr := fr + 4) 15) (fun v M1 hq => ?_)
  obtain ⟨rfl, hM1⟩ := hq
  rw [hM1]
  clear hM1 M1
  refine a_st (st2 := [.int 4, .int 2]) (by decide +kernel) ?_
  refine a_icmp_ge 115 dX6_init_91 (by decide) (fun c => absurd c (by decide)) (fun _ => ?_)
  refine a_lload dX6_init_94 rfl ?_
  refine a_bipush (v := 8) dX6_init_96 (by decide) ?_
  refine a_lshl dX6_init_98 ?_
  refine a_st (st2 := [.long 7364864]) (by decide) ?_
  refine a_iload_n dX6_init_99 rfl rfl ?_
  refine a_iload dX6_init_100 rfl ?_
  refine a_callS (As := [.int 15, .int 2]) (st := [.long 7364864]) (bc := 0) (bs := 0) (mc := 0) (ms := 0) true dX6_init_102 mw_X10_wordLetter rfl (Or.inr ⟨rfl, mn_X6_50⟩) sm_X10_wordLetter rfl (by decide) (k_wordLetter (fr := fr) (c := 15) (i := 2) (by decide) (by decide) (by decide) (by decide +kernel) (by unfold vp_in; decide +kernel)) (fun v M1 hq => ?_)
  obtain ⟨rfl, hM1⟩ := hq
  rw [hM1]
  clear hM1 M1
  refine a_st (st2 := [.int 105, .long 7364864]) (by decide +kernel) ?_
  refine a_i2l dX6_init_105 ?_
  refine a_st (st2 := [.long 105, .long 7364864]) (by decide) ?_
  refine a_lor dX6_init_106 ?_
  refine a_st (st2 := [.long 7364969]) (by decide) ?_
  refine a_lstore dX6_init_107 (Nat.le_of_ble_eq_true rfl) (lv2 := [(4, .long 7364969), (6, .int 2), (3, .int 15), (0, .ref 14), (1, .ref 2), (2, .ref 1)]) rfl ?_
  refine a_iinc (v := 3) dX6_init_109 rfl (by decide) (Nat.le_of_ble_eq_true rfl) (lv2 := [(6, .int 3), (4, .long 7364969), (3, .int 15), (0, .ref 14), (1, .ref 2), (2, .ref 1)]) rfl ?_
  refine a_goto 85 dX6_init_112 (by decide) ?_
  refine a_iload dX6_init_85 rfl ?_
  refine a_iload_n dX6_init_87 rfl rfl ?_
  refine a_callS (As := [.int 15]) (st := [.int 3]) (bc := 0) (bs := 0) (mc := 0) (ms := 0) true dX6_init_88 mw_X10_wordLength rfl (Or.inr ⟨rfl, mn_X6_46⟩) sm_X10_wordLength rfl (by decide) (k_wordLength (fr := fr + 4) 15) (fun v M1 hq => ?_)
  obtain ⟨rfl, hM1⟩ := hq
  rw [hM1]
  clear hM1 M1
  refine a_st (st2 := [.int 4, .int 3]) (by decide +kernel) ?_
  refine a_icmp_ge 115 dX6_init_91 (by decide) (fun c => absurd c (by decide)) (fun _ => ?_)
  refine a_lload dX6_init_94 rfl ?_
  refine a_bipush (v := 8) dX6_init_96 (by decide) ?_
  refine a_lshl dX6_init_98 ?_
  refine a_st (st2 := [.long 1885432064]) (by decide) ?_
  refine a_iload_n dX6_init_99 rfl rfl ?_
  refine a_iload dX6_init_100 rfl ?_
  refine a_callS (As := [.int 15, .int 3]) (st := [.long 1885432064]) (bc := 0) (bs := 0) (mc := 0) (ms := 0) true dX6_init_102 mw_X10_wordLetter rfl (Or.inr ⟨rfl, mn_X6_50⟩) sm_X10_wordLetter rfl (by decide) (k_wordLetter (fr := fr) (c := 15) (i := 3) (by decide) (by decide) (by decide) (by decide +kernel) (by unfold vp_in; decide +kernel)) (fun v M1 hq => ?_)
  obtain ⟨rfl, hM1⟩ := hq
  rw [hM1]
  clear hM1 M1
  refine a_st (st2 := [.int 114, .long 1885432064]) (by decide +kernel) ?_
  refine a_i2l dX6_init_105 ?_
  refine a_st (st2 := [.long 114, .long 1885432064]) (by decide) ?_
  refine a_lor dX6_init_106 ?_
  refine a_st (st2 := [.long 1885432178]) (by decide) ?_
  refine a_lstore dX6_init_107 (Nat.le_of_ble_eq_true rfl) (lv2 := [(4, .long 1885432178), (6, .int 3), (3, .int 15), (0, .ref 14), (1, .ref 2), (2, .ref 1)]) rfl ?_
  refine a_iinc (v := 4) dX6_init_109 rfl (by decide) (Nat.le_of_ble_eq_true rfl) (lv2 := [(6, .int 4), (4, .long 1885432178), (3, .int 15), (0, .ref 14), (1, .ref 2), (2, .ref 1)]) rfl ?_
  refine a_goto 85 dX6_init_112 (by decide) ?_
  refine a_iload dX6_init_85 rfl ?_
  refine a_iload_n dX6_init_87 rfl rfl ?_
  refine a_callS (As := [.int 15]) (st := [.int 4]) (bc := 0) (bs := 0) (mc := 0) (ms := 0) true dX6_init_88 mw_X10_wordLength rfl (Or.inr ⟨rfl, mn_X6_46⟩) sm_X10_wordLength rfl (by decide) (k_wordLength (fr := fr + 4) 15) (fun v M1 hq => ?_)
  obtain ⟨rfl, hM1⟩ := hq
  rw [hM1]
  clear hM1 M1
  refine a_st (st2 := [.int 4, .int 4]) (by decide +kernel) ?_
  refine a_icmp_ge 115 dX6_init_91 (by decide) (fun _ => ?_) (fun c => absurd c (by decide))
  refine a_aload_n dX6_init_115 rfl rfl ?_
  refine a_get (v := .ref 15) dX6_init_116 fl_6_9 (cw_l h31 (by decide)) (cw_s h31 (by decide) rfl) (cw_g h31 rfl (by decide +kernel)) ?_
  refine a_iload_n dX6_init_119 rfl rfl ?_
  refine a_lload dX6_init_120 rfl ?_
  refine a_lastore dX6_init_122 (cw_l h31 (by decide)) (cw_s h31 (by decide) rfl) (by unfold vp_in; decide +kernel) ?_
  rw [show Int32.toNatClampNeg 15 = 15 from by decide +kernel]
  have h32 : Cw 24 Lj24 fs30 gs25 (wJ M31 15 15 1885432178) := cw_J h31 (by decide)
  generalize (wJ M31 15 15 1885432178) = M32 at h32 ⊢
  refine a_iinc (v := 16) dX6_init_123 rfl (by decide) (Nat.le_of_ble_eq_true rfl) (lv2 := [(3, .int 16), (6, .int 4), (4, .long 1885432178), (0, .ref 14), (1, .ref 2), (2, .ref 1)]) rfl ?_
  refine a_goto 73 dX6_init_126 (by decide) ?_
  refine a_iload_n dX6_init_73 rfl rfl ?_
  refine a_bipush (v := 22) dX6_init_74 (by decide) ?_
  refine a_icmp_ge 129 dX6_init_76 (by decide) (fun c => absurd c (by decide)) (fun _ => ?_)
  refine a_lconst (v := 0) dX6_init_79 (by decide) ?_
  refine a_lstore dX6_init_80 (Nat.le_of_ble_eq_true rfl) (lv2 := [(4, .long 0), (3, .int 16), (6, .int 4), (0, .ref 14), (1, .ref 2), (2, .ref 1)]) rfl ?_
  refine a_iconst (v := 0) dX6_init_82 (by decide) ?_
  refine a_istore dX6_init_83 (Nat.le_of_ble_eq_true rfl) (lv2 := [(6, .int 0), (4, .long 0), (3, .int 16), (0, .ref 14), (1, .ref 2), (2, .ref 1)]) rfl ?_
  refine a_iload dX6_init_85 rfl ?_
  refine a_iload_n dX6_init_87 rfl rfl ?_
  refine a_callS (As := [.int 16]) (st := [.int 0]) (bc := 0) (bs := 0) (mc := 0) (ms := 0) true dX6_init_88 mw_X10_wordLength rfl (Or.inr ⟨rfl, mn_X6_46⟩) sm_X10_wordLength rfl (by decide) (k_wordLength (fr := fr + 4) 16) (fun v M1 hq => ?_)
  obtain ⟨rfl, hM1⟩ := hq
  rw [hM1]
  clear hM1 M1
  refine a_st (st2 := [.int 3, .int 0]) (by decide +kernel) ?_
  refine a_icmp_ge 115 dX6_init_91 (by decide) (fun c => absurd c (by decide)) (fun _ => ?_)
  refine a_lload dX6_init_94 rfl ?_
  refine a_bipush (v := 8) dX6_init_96 (by decide) ?_
  refine a_lshl dX6_init_98 ?_
  refine a_st (st2 := [.long 0]) (by decide) ?_
  refine a_iload_n dX6_init_99 rfl rfl ?_
  refine a_iload dX6_init_100 rfl ?_
  refine a_callS (As := [.int 16, .int 0]) (st := [.long 0]) (bc := 0) (bs := 0) (mc := 0) (ms := 0) true dX6_init_102 mw_X10_wordLetter rfl (Or.inr ⟨rfl, mn_X6_50⟩) sm_X10_wordLetter rfl (by decide) (k_wordLetter (fr := fr) (c := 16) (i := 0) (by decide) (by decide) (by decide) (by decide +kernel) (by unfold vp_in; decide +kernel)) (fun v M1 hq => ?_)
  obtain ⟨rfl, hM1⟩ := hq
  rw [hM1]
  clear hM1 M1
  refine a_st (st2 := [.int 102, .long 0]) (by decide +kernel) ?_
  refine a_i2l dX6_init_105 ?_
  refine a_st (st2 := [.long 102, .long 0]) (by decide) ?_
  refine a_lor dX6_init_106 ?_
  refine a_st (st2 := [.long 102]) (by decide) ?_
  refine a_lstore dX6_init_107 (Nat.le_of_ble_eq_true rfl) (lv2 := [(4, .long 102), (6, .int 0), (3, .int 16), (0, .ref 14), (1, .ref 2), (2, .ref 1)]) rfl ?_
  refine a_iinc (v := 1) dX6_init_109 rfl (by decide) (Nat.le_of_ble_eq_true rfl) (lv2 := [(6, .int 1), (4, .long 102), (3, .int 16), (0, .ref 14), (1, .ref 2), (2, .ref 1)]) rfl ?_
  refine a_goto 85 dX6_init_112 (by decide) ?_
  refine a_iload dX6_init_85 rfl ?_
  refine a_iload_n dX6_init_87 rfl rfl ?_
  refine a_callS (As := [.int 16]) (st := [.int 1]) (bc := 0) (bs := 0) (mc := 0) (ms := 0) true dX6_init_88 mw_X10_wordLength rfl (Or.inr ⟨rfl, mn_X6_46⟩) sm_X10_wordLength rfl (by decide) (k_wordLength (fr := fr + 4) 16) (fun v M1 hq => ?_)
  obtain ⟨rfl, hM1⟩ := hq
  rw [hM1]
  clear hM1 M1
  refine a_st (st2 := [.int 3, .int 1]) (by decide +kernel) ?_
  refine a_icmp_ge 115 dX6_init_91 (by decide) (fun c => absurd c (by decide)) (fun _ => ?_)
  refine a_lload dX6_init_94 rfl ?_
  refine a_bipush (v := 8) dX6_init_96 (by decide) ?_
  refine a_lshl dX6_init_98 ?_
  refine a_st (st2 := [.long 26112]) (by decide) ?_
  refine a_iload_n dX6_init_99 rfl rfl ?_
  refine a_iload dX6_init_100 rfl ?_
  refine a_callS (As := [.int 16, .int 1]) (st := [.long 26112]) (bc := 0) (bs := 0) (mc := 0) (ms := 0) true dX6_init_102 mw_X10_wordLetter rfl (Or.inr ⟨rfl, mn_X6_50⟩) sm_X10_wordLetter rfl (by decide) (k_wordLetter (fr := fr) (c := 16) (i := 1) (by decide) (by decide) (by decide) (by decide +kernel) (by unfold vp_in; decide +kernel)) (fun v M1 hq => ?_)
  obtain ⟨rfl, hM1⟩ := hq
  rw [hM1]
  clear hM1 M1
  refine a_st (st2 := [.int 115, .long 26112]) (by decide +kernel) ?_
  refine a_i2l dX6_init_105 ?_
  refine a_st (st2 := [.long 115, .long 26112]) (by decide) ?_
  refine a_lor dX6_init_106 ?_
  refine a_st (st2 := [.long 26227]) (by decide) ?_
  refine a_lstore dX6_init_107 (Nat.le_of_ble_eq_true rfl) (lv2 := [(4, .long 26227), (6, .int 1), (3, .int 16), (0, .ref 14), (1, .ref 2), (2, .ref 1)]) rfl ?_
  refine a_iinc (v := 2) dX6_init_109 rfl (by decide) (Nat.le_of_ble_eq_true rfl) (lv2 := [(6, .int 2), (4, .long 26227), (3, .int 16), (0, .ref 14), (1, .ref 2), (2, .ref 1)]) rfl ?_
  refine a_goto 85 dX6_init_112 (by decide) ?_
  refine a_iload dX6_init_85 rfl ?_
  refine a_iload_n dX6_init_87 rfl rfl ?_
  refine a_callS (As := [.int 16]) (st := [.int 2]) (bc := 0) (bs := 0) (mc := 0) (ms := 0) true dX6_init_88 mw_X10_wordLength rfl (Or.inr ⟨rfl, mn_X6_46⟩) sm_X10_wordLength rfl (by decide) (k_wordLength (fr := fr + 4) 16) (fun v M1 hq => ?_)
  obtain ⟨rfl, hM1⟩ := hq
  rw [hM1]
  clear hM1 M1
  refine a_st (st2 := [.int 3, .int 2]) (by decide +kernel) ?_
  refine a_icmp_ge 115 dX6_init_91 (by decide) (fun c => absurd c (by decide)) (fun _ => ?_)
  refine a_lload dX6_init_94 rfl ?_
  refine a_bipush (v := 8) dX6_init_96 (by decide) ?_
  refine a_lshl dX6_init_98 ?_
  refine a_st (st2 := [.long 6714112]) (by decide) ?_
  refine a_iload_n dX6_init_99 rfl rfl ?_
  refine a_iload dX6_init_100 rfl ?_
  refine a_callS (As := [.int 16, .int 2]) (st := [.long 6714112]) (bc := 0) (bs := 0) (mc := 0) (ms := 0) true dX6_init_102 mw_X10_wordLetter rfl (Or.inr ⟨rfl, mn_X6_50⟩) sm_X10_wordLetter rfl (by decide) (k_wordLetter (fr := fr) (c := 16) (i := 2) (by decide) (by decide) (by decide) (by decide +kernel) (by unfold vp_in; decide +kernel)) (fun v M1 hq => ?_)
  obtain ⟨rfl, hM1⟩ := hq
  rw [hM1]
  clear hM1 M1
  refine a_st (st2 := [.int 116, .long 6714112]) (by decide +kernel) ?_
  refine a_i2l dX6_init_105 ?_
  refine a_st (st2 := [.long 116, .long 6714112]) (by decide) ?_
  refine a_lor dX6_init_106 ?_
  refine a_st (st2 := [.long 6714228]) (by decide) ?_
  refine a_lstore dX6_init_107 (Nat.le_of_ble_eq_true rfl) (lv2 := [(4, .long 6714228), (6, .int 2), (3, .int 16), (0, .ref 14), (1, .ref 2), (2, .ref 1)]) rfl ?_
  refine a_iinc (v := 3) dX6_init_109 rfl (by decide) (Nat.le_of_ble_eq_true rfl) (lv2 := [(6, .int 3), (4, .long 6714228), (3, .int 16), (0, .ref 14), (1, .ref 2), (2, .ref 1)]) rfl ?_
  refine a_goto 85 dX6_init_112 (by decide) ?_
  refine a_iload dX6_init_85 rfl ?_
  refine a_iload_n dX6_init_87 rfl rfl ?_
  refine a_callS (As := [.int 16]) (st := [.int 3]) (bc := 0) (bs := 0) (mc := 0) (ms := 0) true dX6_init_88 mw_X10_wordLength rfl (Or.inr ⟨rfl, mn_X6_46⟩) sm_X10_wordLength rfl (by decide) (k_wordLength (fr := fr + 4) 16) (fun v M1 hq => ?_)
  obtain ⟨rfl, hM1⟩ := hq
  rw [hM1]
  clear hM1 M1
  refine a_st (st2 := [.int 3, .int 3]) (by decide +kernel) ?_
  refine a_icmp_ge 115 dX6_init_91 (by decide) (fun _ => ?_) (fun c => absurd c (by decide))
  refine a_aload_n dX6_init_115 rfl rfl ?_
  refine a_get (v := .ref 15) dX6_init_116 fl_6_9 (cw_l h32 (by decide)) (cw_s h32 (by decide) rfl) (cw_g h32 rfl (by decide +kernel)) ?_
  refine a_iload_n dX6_init_119 rfl rfl ?_
  refine a_lload dX6_init_120 rfl ?_
  refine a_lastore dX6_init_122 (cw_l h32 (by decide)) (cw_s h32 (by decide) rfl) (by unfold vp_in; decide +kernel) ?_
  rw [show Int32.toNatClampNeg 16 = 16 from by decide +kernel]
  have h33 : Cw 24 Lj24 fs30 gs26 (wJ M32 15 16 6714228) := cw_J h32 (by decide)
  generalize (wJ M32 15 16 6714228) = M33 at h33 ⊢
  refine a_iinc (v := 17) dX6_init_123 rfl (by decide) (Nat.le_of_ble_eq_true rfl) (lv2 := [(3, .int 17), (6, .int 3), (4, .long 6714228), (0, .ref 14), (1, .ref 2), (2, .ref 1)]) rfl ?_
  refine a_goto 73 dX6_init_126 (by decide) ?_
  refine a_iload_n dX6_init_73 rfl rfl ?_
  refine a_bipush (v := 22) dX6_init_74 (by decide) ?_
  refine a_icmp_ge 129 dX6_init_76 (by decide) (fun c => absurd c (by decide)) (fun _ => ?_)
  refine a_lconst (v := 0) dX6_init_79 (by decide) ?_
  refine a_lstore dX6_init_80 (Nat.le_of_ble_eq_true rfl) (lv2 := [(4, .long 0), (3, .int 17), (6, .int 3), (0, .ref 14), (1, .ref 2), (2, .ref 1)]) rfl ?_
  refine a_iconst (v := 0) dX6_init_82 (by decide) ?_
  refine a_istore dX6_init_83 (Nat.le_of_ble_eq_true rfl) (lv2 := [(6, .int 0), (4, .long 0), (3, .int 17), (0, .ref 14), (1, .ref 2), (2, .ref 1)]) rfl ?_
  refine a_iload dX6_init_85 rfl ?_
  refine a_iload_n dX6_init_87 rfl rfl ?_
  refine a_callS (As := [.int 17]) (st := [.int 0]) (bc := 0) (bs := 0) (mc := 0) (ms := 0) true dX6_init_88 mw_X10_wordLength rfl (Or.inr ⟨rfl, mn_X6_46⟩) sm_X10_wordLength rfl (by decide) (k_wordLength (fr := fr + 4) 17) (fun v M1 hq => ?_)
  obtain ⟨rfl, hM1⟩ := hq
  rw [hM1]
  clear hM1 M1
  refine a_st (st2 := [.int 3, .int 0]) (by decide +kernel) ?_
  refine a_icmp_ge 115 dX6_init_91 (by decide) (fun c => absurd c (by decide)) (fun _ => ?_)
  refine a_lload dX6_init_94 rfl ?_
  refine a_bipush (v := 8) dX6_init_96 (by decide) ?_
  refine a_lshl dX6_init_98 ?_
  refine a_st (st2 := [.long 0]) (by decide) ?_
  refine a_iload_n dX6_init_99 rfl rfl ?_
  refine a_iload dX6_init_100 rfl ?_
  refine a_callS (As := [.int 17, .int 0]) (st := [.long 0]) (bc := 0) (bs := 0) (mc := 0) (ms := 0) true dX6_init_102 mw_X10_wordLetter rfl (Or.inr ⟨rfl, mn_X6_50⟩) sm_X10_wordLetter rfl (by decide) (k_wordLetter (fr := fr) (c := 17) (i := 0) (by decide) (by decide) (by decide) (by decide +kernel) (by unfold vp_in; decide +kernel)) (fun v M1 hq => ?_)
  obtain ⟨rfl, hM1⟩ := hq
  rw [hM1]
  clear hM1 M1
  refine a_st (st2 := [.int 115, .long 0]) (by decide +kernel) ?_
  refine a_i2l dX6_init_105 ?_
  refine a_st (st2 := [.long 115, .long 0]) (by decide) ?_
  refine a_lor dX6_init_106 ?_
  refine a_st (st2 := [.long 115]) (by decide) ?_
  refine a_lstore dX6_init_107 (Nat.le_of_ble_eq_true rfl) (lv2 := [(4, .long 115), (6, .int 0), (3, .int 17), (0, .ref 14), (1, .ref 2), (2, .ref 1)]) rfl ?_
  refine a_iinc (v := 1) dX6_init_109 rfl (by decide) (Nat.le_of_ble_eq_true rfl) (lv2 := [(6, .int 1), (4, .long 115), (3, .int 17), (0, .ref 14), (1, .ref 2), (2, .ref 1)]) rfl ?_
  refine a_goto 85 dX6_init_112 (by decide) ?_
  refine a_iload dX6_init_85 rfl ?_
  refine a_iload_n dX6_init_87 rfl rfl ?_
  refine a_callS (As := [.int 17]) (st := [.int 1]) (bc := 0) (bs := 0) (mc := 0) (ms := 0) true dX6_init_88 mw_X10_wordLength rfl (Or.inr ⟨rfl, mn_X6_46⟩) sm_X10_wordLength rfl (by decide) (k_wordLength (fr := fr + 4) 17) (fun v M1 hq => ?_)
  obtain ⟨rfl, hM1⟩ := hq
  rw [hM1]
  clear hM1 M1
  refine a_st (st2 := [.int 3, .int 1]) (by decide +kernel) ?_
  refine a_icmp_ge 115 dX6_init_91 (by decide) (fun c => absurd c (by decide)) (fun _ => ?_)
  refine a_lload dX6_init_94 rfl ?_
  refine a_bipush (v := 8) dX6_init_96 (by decide) ?_
  refine a_lshl dX6_init_98 ?_
  refine a_st (st2 := [.long 29440]) (by decide) ?_
  refine a_iload_n dX6_init_99 rfl rfl ?_
  refine a_iload dX6_init_100 rfl ?_
  refine a_callS (As := [.int 17, .int 1]) (st := [.long 29440]) (bc := 0) (bs := 0) (mc := 0) (ms := 0) true dX6_init_102 mw_X10_wordLetter rfl (Or.inr ⟨rfl, mn_X6_50⟩) sm_X10_wordLetter rfl (by decide) (k_wordLetter (fr := fr) (c := 17) (i := 1) (by decide) (by decide) (by decide) (by decide +kernel) (by unfold vp_in; decide +kernel)) (fun v M1 hq => ?_)
  obtain ⟨rfl, hM1⟩ := hq
  rw [hM1]
  clear hM1 M1
  refine a_st (st2 := [.int 110, .long 29440]) (by decide +kernel) ?_
  refine a_i2l dX6_init_105 ?_
  refine a_st (st2 := [.long 110, .long 29440]) (by decide) ?_
  refine a_lor dX6_init_106 ?_
  refine a_st (st2 := [.long 29550]) (by decide) ?_
  refine a_lstore dX6_init_107 (Nat.le_of_ble_eq_true rfl) (lv2 := [(4, .long 29550), (6, .int 1), (3, .int 17), (0, .ref 14), (1, .ref 2), (2, .ref 1)]) rfl ?_
  refine a_iinc (v := 2) dX6_init_109 rfl (by decide) (Nat.le_of_ble_eq_true rfl) (lv2 := [(6, .int 2), (4, .long 29550), (3, .int 17), (0, .ref 14), (1, .ref 2), (2, .ref 1)]) rfl ?_
  refine a_goto 85 dX6_init_112 (by decide) ?_
  refine a_iload dX6_init_85 rfl ?_
  refine a_iload_n dX6_init_87 rfl rfl ?_
  refine a_callS (As := [.int 17]) (st := [.int 2]) (bc := 0) (bs := 0) (mc := 0) (ms := 0) true dX6_init_88 mw_X10_wordLength rfl (Or.inr ⟨rfl, mn_X6_46⟩) sm_X10_wordLength rfl (by decide) (k_wordLength (fr := fr + 4) 17) (fun v M1 hq => ?_)
  obtain ⟨rfl, hM1⟩ := hq
  rw [hM1]
  clear hM1 M1
  refine a_st (st2 := [.int 3, .int 2]) (by decide +kernel) ?_
  refine a_icmp_ge 115 dX6_init_91 (by decide) (fun c => absurd c (by decide)) (fun _ => ?_)
  refine a_lload dX6_init_94 rfl ?_
  refine a_bipush (v := 8) dX6_init_96 (by decide) ?_
  refine a_lshl dX6_init_98 ?_
  refine a_st (st2 := [.long 7564800]) (by decide) ?_
  refine a_iload_n dX6_init_99 rfl rfl ?_
  refine a_iload dX6_init_100 rfl ?_
  refine a_callS (As := [.int 17, .int 2]) (st := [.long 7564800]) (bc := 0) (bs := 0) (mc := 0) (ms := 0) true dX6_init_102 mw_X10_wordLetter rfl (Or.inr ⟨rfl, mn_X6_50⟩) sm_X10_wordLetter rfl (by decide) (k_wordLetter (fr := fr) (c := 17) (i := 2) (by decide) (by decide) (by decide) (by decide +kernel) (by unfold vp_in; decide +kernel)) (fun v M1 hq => ?_)
  obtain ⟨rfl, hM1⟩ := hq
  rw [hM1]
  clear hM1 M1
  refine a_st (st2 := [.int 100, .long 7564800]) (by decide +kernel) ?_
  refine a_i2l dX6_init_105 ?_
  refine a_st (st2 := [.long 100, .long 7564800]) (by decide) ?_
  refine a_lor dX6_init_106 ?_
  refine a_st (st2 := [.long 7564900]) (by decide) ?_
  refine a_lstore dX6_init_107 (Nat.le_of_ble_eq_true rfl) (lv2 := [(4, .long 7564900), (6, .int 2), (3, .int 17), (0, .ref 14), (1, .ref 2), (2, .ref 1)]) rfl ?_
  refine a_iinc (v := 3) dX6_init_109 rfl (by decide) (Nat.le_of_ble_eq_true rfl) (lv2 := [(6, .int 3), (4, .long 7564900), (3, .int 17), (0, .ref 14), (1, .ref 2), (2, .ref 1)]) rfl ?_
  refine a_goto 85 dX6_init_112 (by decide) ?_
  refine a_iload dX6_init_85 rfl ?_
  refine a_iload_n dX6_init_87 rfl rfl ?_
  refine a_callS (As := [.int 17]) (st := [.int 3]) (bc := 0) (bs := 0) (mc := 0) (ms := 0) true dX6_init_88 mw_X10_wordLength rfl (Or.inr ⟨rfl, mn_X6_46⟩) sm_X10_wordLength rfl (by decide) (k_wordLength (fr := fr + 4) 17) (fun v M1 hq => ?_)
  obtain ⟨rfl, hM1⟩ := hq
  rw [hM1]
  clear hM1 M1
  refine a_st (st2 := [.int 3, .int 3]) (by decide +kernel) ?_
  refine a_icmp_ge 115 dX6_init_91 (by decide) (fun _ => ?_) (fun c => absurd c (by decide))
  refine a_aload_n dX6_init_115 rfl rfl ?_
  refine a_get (v := .ref 15) dX6_init_116 fl_6_9 (cw_l h33 (by decide)) (cw_s h33 (by decide) rfl) (cw_g h33 rfl (by decide +kernel)) ?_
  refine a_iload_n dX6_init_119 rfl rfl ?_
  refine a_lload dX6_init_120 rfl ?_
  refine a_lastore dX6_init_122 (cw_l h33 (by decide)) (cw_s h33 (by decide) rfl) (by unfold vp_in; decide +kernel) ?_
  rw [show Int32.toNatClampNeg 17 = 17 from by decide +kernel]
  have h34 : Cw 24 Lj24 fs30 gs27 (wJ M33 15 17 7564900) := cw_J h33 (by decide)
  generalize (wJ M33 15 17 7564900) = M34 at h34 ⊢
  refine a_iinc (v := 18) dX6_init_123 rfl (by decide) (Nat.le_of_ble_eq_true rfl) (lv2 := [(3, .int 18), (6, .int 3), (4, .long 7564900), (0, .ref 14), (1, .ref 2), (2, .ref 1)]) rfl ?_
  refine a_goto 73 dX6_init_126 (by decide) ?_
  refine a_iload_n dX6_init_73 rfl rfl ?_
  refine a_bipush (v := 22) dX6_init_74 (by decide) ?_
  refine a_icmp_ge 129 dX6_init_76 (by decide) (fun c => absurd c (by decide)) (fun _ => ?_)
  refine a_lconst (v := 0) dX6_init_79 (by decide) ?_
  refine a_lstore dX6_init_80 (Nat.le_of_ble_eq_true rfl) (lv2 := [(4, .long 0), (3, .int 18), (6, .int 3), (0, .ref 14), (1, .ref 2), (2, .ref 1)]) rfl ?_
  refine a_iconst (v := 0) dX6_init_82 (by decide) ?_
  refine a_istore dX6_init_83 (Nat.le_of_ble_eq_true rfl) (lv2 := [(6, .int 0), (4, .long 0), (3, .int 18), (0, .ref 14), (1, .ref 2), (2, .ref 1)]) rfl ?_
  refine a_iload dX6_init_85 rfl ?_
  refine a_iload_n dX6_init_87 rfl rfl ?_
  refine a_callS (As := [.int 18]) (st := [.int 0]) (bc := 0) (bs := 0) (mc := 0) (ms := 0) true dX6_init_88 mw_X10_wordLength rfl (Or.inr ⟨rfl, mn_X6_46⟩) sm_X10_wordLength rfl (by decide) (k_wordLength (fr := fr + 4) 18) (fun v M1 hq => ?_)
  obtain ⟨rfl, hM1⟩ := hq
  rw [hM1]
  clear hM1 M1
  refine a_st (st2 := [.int 3, .int 0]) (by decide +kernel) ?_
  refine a_icmp_ge 115 dX6_init_91 (by decide) (fun c => absurd c (by decide)) (fun _ => ?_)
  refine a_lload dX6_init_94 rfl ?_
  refine a_bipush (v := 8) dX6_init_96 (by decide) ?_
  refine a_lshl dX6_init_98 ?_
  refine a_st (st2 := [.long 0]) (by decide) ?_
  refine a_iload_n dX6_init_99 rfl rfl ?_
  refine a_iload dX6_init_100 rfl ?_
  refine a_callS (As := [.int 18, .int 0]) (st := [.long 0]) (bc := 0) (bs := 0) (mc := 0) (ms := 0) true dX6_init_102 mw_X10_wordLetter rfl (Or.inr ⟨rfl, mn_X6_50⟩) sm_X10_wordLetter rfl (by decide) (k_wordLetter (fr := fr) (c := 18) (i := 0) (by decide) (by decide) (by decide) (by decide +kernel) (by unfold vp_in; decide +kernel)) (fun v M1 hq => ?_)
  obtain ⟨rfl, hM1⟩ := hq
  rw [hM1]
  clear hM1 M1
  refine a_st (st2 := [.int 105, .long 0]) (by decide +kernel) ?_
  refine a_i2l dX6_init_105 ?_
  refine a_st (st2 := [.long 105, .long 0]) (by decide) ?_
  refine a_lor dX6_init_106 ?_
  refine a_st (st2 := [.long 105]) (by decide) ?_
  refine a_lstore dX6_init_107 (Nat.le_of_ble_eq_true rfl) (lv2 := [(4, .long 105), (6, .int 0), (3, .int 18), (0, .ref 14), (1, .ref 2), (2, .ref 1)]) rfl ?_
  refine a_iinc (v := 1) dX6_init_109 rfl (by decide) (Nat.le_of_ble_eq_true rfl) (lv2 := [(6, .int 1), (4, .long 105), (3, .int 18), (0, .ref 14), (1, .ref 2), (2, .ref 1)]) rfl ?_
  refine a_goto 85 dX6_init_112 (by decide) ?_
  refine a_iload dX6_init_85 rfl ?_
  refine a_iload_n dX6_init_87 rfl rfl ?_
  refine a_callS (As := [.int 18]) (st := [.int 1]) (bc := 0) (bs := 0) (mc := 0) (ms := 0) true dX6_init_88 mw_X10_wordLength rfl (Or.inr ⟨rfl, mn_X6_46⟩) sm_X10_wordLength rfl (by decide) (k_wordLength (fr := fr + 4) 18) (fun v M1 hq => ?_)
  obtain ⟨rfl, hM1⟩ := hq
  rw [hM1]
  clear hM1 M1
  refine a_st (st2 := [.int 3, .int 1]) (by decide +kernel) ?_
  refine a_icmp_ge 115 dX6_init_91 (by decide) (fun c => absurd c (by decide)) (fun _ => ?_)
  refine a_lload dX6_init_94 rfl ?_
  refine a_bipush (v := 8) dX6_init_96 (by decide) ?_
  refine a_lshl dX6_init_98 ?_
  refine a_st (st2 := [.long 26880]) (by decide) ?_
  refine a_iload_n dX6_init_99 rfl rfl ?_
  refine a_iload dX6_init_100 rfl ?_
  refine a_callS (As := [.int 18, .int 1]) (st := [.long 26880]) (bc := 0) (bs := 0) (mc := 0) (ms := 0) true dX6_init_102 mw_X10_wordLetter rfl (Or.inr ⟨rfl, mn_X6_50⟩) sm_X10_wordLetter rfl (by decide) (k_wordLetter (fr := fr) (c := 18) (i := 1) (by decide) (by decide) (by decide) (by decide +kernel) (by unfold vp_in; decide +kernel)) (fun v M1 hq => ?_)
  obtain ⟨rfl, hM1⟩ := hq
  rw [hM1]
  clear hM1 M1
  refine a_st (st2 := [.int 110, .long 26880]) (by decide +kernel) ?_
  refine a_i2l dX6_init_105 ?_
  refine a_st (st2 := [.long 110, .long 26880]) (by decide) ?_
  refine a_lor dX6_init_106 ?_
  refine a_st (st2 := [.long 26990]) (by decide) ?_
  refine a_lstore dX6_init_107 (Nat.le_of_ble_eq_true rfl) (lv2 := [(4, .long 26990), (6, .int 1), (3, .int 18), (0, .ref 14), (1, .ref 2), (2, .ref 1)]) rfl ?_
  refine a_iinc (v := 2) dX6_init_109 rfl (by decide) (Nat.le_of_ble_eq_true rfl) (lv2 := [(6, .int 2), (4, .long 26990), (3, .int 18), (0, .ref 14), (1, .ref 2), (2, .ref 1)]) rfl ?_
  refine a_goto 85 dX6_init_112 (by decide) ?_
  refine a_iload dX6_init_85 rfl ?_
  refine a_iload_n dX6_init_87 rfl rfl ?_
  refine a_callS (As := [.int 18]) (st := [.int 2]) (bc := 0) (bs := 0) (mc := 0) (ms := 0) true dX6_init_88 mw_X10_wordLength rfl (Or.inr ⟨rfl, mn_X6_46⟩) sm_X10_wordLength rfl (by decide) (k_wordLength (fr := fr + 4) 18) (fun v M1 hq => ?_)
  obtain ⟨rfl, hM1⟩ := hq
  rw [hM1]
  clear hM1 M1
  refine a_st (st2 := [.int 3, .int 2]) (by decide +kernel) ?_
  refine a_icmp_ge 115 dX6_init_91 (by decide) (fun c => absurd c (by decide)) (fun _ => ?_)
  refine a_lload dX6_init_94 rfl ?_
  refine a_bipush (v := 8) dX6_init_96 (by decide) ?_
  refine a_lshl dX6_init_98 ?_
  refine a_st (st2 := [.long 6909440]) (by decide) ?_
  refine a_iload_n dX6_init_99 rfl rfl ?_
  refine a_iload dX6_init_100 rfl ?_
  refine a_callS (As := [.int 18, .int 2]) (st := [.long 6909440]) (bc := 0) (bs := 0) (mc := 0) (ms := 0) true dX6_init_102 mw_X10_wordLetter rfl (Or.inr ⟨rfl, mn_X6_50⟩) sm_X10_wordLetter rfl (by decide) (k_wordLetter (fr := fr) (c := 18) (i := 2) (by decide) (by decide) (by decide) (by decide +kernel) (by unfold vp_in; decide +kernel)) (fun v M1 hq => ?_)
  obtain ⟨rfl, hM1⟩ := hq
  rw [hM1]
  clear hM1 M1
  refine a_st (st2 := [.int 108, .long 6909440]) (by decide +kernel) ?_
  refine a_i2l dX6_init_105 ?_
  refine a_st (st2 := [.long 108, .long 6909440]) (by decide) ?_
  refine a_lor dX6_init_106 ?_
  refine a_st (st2 := [.long 6909548]) (by decide) ?_
  refine a_lstore dX6_init_107 (Nat.le_of_ble_eq_true rfl) (lv2 := [(4, .long 6909548), (6, .int 2), (3, .int 18), (0, .ref 14), (1, .ref 2), (2, .ref 1)]) rfl ?_
  refine a_iinc (v := 3) dX6_init_109 rfl (by decide) (Nat.le_of_ble_eq_true rfl) (lv2 := [(6, .int 3), (4, .long 6909548), (3, .int 18), (0, .ref 14), (1, .ref 2), (2, .ref 1)]) rfl ?_
  refine a_goto 85 dX6_init_112 (by decide) ?_
  refine a_iload dX6_init_85 rfl ?_
  refine a_iload_n dX6_init_87 rfl rfl ?_
  refine a_callS (As := [.int 18]) (st := [.int 3]) (bc := 0) (bs := 0) (mc := 0) (ms := 0) true dX6_init_88 mw_X10_wordLength rfl (Or.inr ⟨rfl, mn_X6_46⟩) sm_X10_wordLength rfl (by decide) (k_wordLength (fr := fr + 4) 18) (fun v M1 hq => ?_)
  obtain ⟨rfl, hM1⟩ := hq
  rw [hM1]
  clear hM1 M1
  refine a_st (st2 := [.int 3, .int 3]) (by decide +kernel) ?_
  refine a_icmp_ge 115 dX6_init_91 (by decide) (fun _ => ?_) (fun c => absurd c (by decide))
  refine a_aload_n dX6_init_115 rfl rfl ?_
  refine a_get (v := .ref 15) dX6_init_116 fl_6_9 (cw_l h34 (by decide)) (cw_s h34 (by decide) rfl) (cw_g h34 rfl (by decide +kernel)) ?_
  refine a_iload_n dX6_init_119 rfl rfl ?_
  refine a_lload dX6_init_120 rfl ?_
  refine a_lastore dX6_init_122 (cw_l h34 (by decide)) (cw_s h34 (by decide) rfl) (by unfold vp_in; decide +kernel) ?_
  rw [show Int32.toNatClampNeg 18 = 18 from by decide +kernel]
  have h35 : Cw 24 Lj24 fs30 gs28 (wJ M34 15 18 6909548) := cw_J h34 (by decide)
  generalize (wJ M34 15 18 6909548) = M35 at h35 ⊢
  refine a_iinc (v := 19) dX6_init_123 rfl (by decide) (Nat.le_of_ble_eq_true rfl) (lv2 := [(3, .int 19), (6, .int 3), (4, .long 6909548), (0, .ref 14), (1, .ref 2), (2, .ref 1)]) rfl ?_
  refine a_goto 73 dX6_init_126 (by decide) ?_
  refine a_iload_n dX6_init_73 rfl rfl ?_
  refine a_bipush (v := 22) dX6_init_74 (by decide) ?_
  refine a_icmp_ge 129 dX6_init_76 (by decide) (fun c => absurd c (by decide)) (fun _ => ?_)
  refine a_lconst (v := 0) dX6_init_79 (by decide) ?_
  refine a_lstore dX6_init_80 (Nat.le_of_ble_eq_true rfl) (lv2 := [(4, .long 0), (3, .int 19), (6, .int 3), (0, .ref 14), (1, .ref 2), (2, .ref 1)]) rfl ?_
  refine a_iconst (v := 0) dX6_init_82 (by decide) ?_
  refine a_istore dX6_init_83 (Nat.le_of_ble_eq_true rfl) (lv2 := [(6, .int 0), (4, .long 0), (3, .int 19), (0, .ref 14), (1, .ref 2), (2, .ref 1)]) rfl ?_
  refine a_iload dX6_init_85 rfl ?_
  refine a_iload_n dX6_init_87 rfl rfl ?_
  refine a_callS (As := [.int 19]) (st := [.int 0]) (bc := 0) (bs := 0) (mc := 0) (ms := 0) true dX6_init_88 mw_X10_wordLength rfl (Or.inr ⟨rfl, mn_X6_46⟩) sm_X10_wordLength rfl (by decide) (k_wordLength (fr := fr + 4) 19) (fun v M1 hq => ?_)
  obtain ⟨rfl, hM1⟩ := hq
  rw [hM1]
  clear hM1 M1
  refine a_st (st2 := [.int 3, .int 0]) (by decide +kernel) ?_
  refine a_icmp_ge 115 dX6_init_91 (by decide) (fun c => absurd c (by decide)) (fun _ => ?_)
  refine a_lload dX6_init_94 rfl ?_
  refine a_bipush (v := 8) dX6_init_96 (by decide) ?_
  refine a_lshl dX6_init_98 ?_
  refine a_st (st2 := [.long 0]) (by decide) ?_
  refine a_iload_n dX6_init_99 rfl rfl ?_
  refine a_iload dX6_init_100 rfl ?_
  refine a_callS (As := [.int 19, .int 0]) (st := [.long 0]) (bc := 0) (bs := 0) (mc := 0) (ms := 0) true dX6_init_102 mw_X10_wordLetter rfl (Or.inr ⟨rfl, mn_X6_50⟩) sm_X10_wordLetter rfl (by decide) (k_wordLetter (fr := fr) (c := 19) (i := 0) (by decide) (by decide) (by decide) (by decide +kernel) (by unfold vp_in; decide +kernel)) (fun v M1 hq => ?_)
  obtain ⟨rfl, hM1⟩ := hq
  rw [hM1]
  clear hM1 M1
  refine a_st (st2 := [.int 105, .long 0]) (by decide +kernel) ?_
  refine a_i2l dX6_init_105 ?_
  refine a_st (st2 := [.long 105, .long 0]) (by decide) ?_
  refine a_lor dX6_init_106 ?_
  refine a_st (st2 := [.long 105]) (by decide) ?_
  refine a_lstore dX6_init_107 (Nat.le_of_ble_eq_true rfl) (lv2 := [(4, .long 105), (6, .int 0), (3, .int 19), (0, .ref 14), (1, .ref 2), (2, .ref 1)]) rfl ?_
  refine a_iinc (v := 1) dX6_init_109 rfl (by decide) (Nat.le_of_ble_eq_true rfl) (lv2 := [(6, .int 1), (4, .long 105), (3, .int 19), (0, .ref 14), (1, .ref 2), (2, .ref 1)]) rfl ?_
  refine a_goto 85 dX6_init_112 (by decide) ?_
  refine a_iload dX6_init_85 rfl ?_
  refine a_iload_n dX6_init_87 rfl rfl ?_
  refine a_callS (As := [.int 19]) (st := [.int 1]) (bc := 0) (bs := 0) (mc := 0) (ms := 0) true dX6_init_88 mw_X10_wordLength rfl (Or.inr ⟨rfl, mn_X6_46⟩) sm_X10_wordLength rfl (by decide) (k_wordLength (fr := fr + 4) 19) (fun v M1 hq => ?_)
  obtain ⟨rfl, hM1⟩ := hq
  rw [hM1]
  clear hM1 M1
  refine a_st (st2 := [.int 3, .int 1]) (by decide +kernel) ?_
  refine a_icmp_ge 115 dX6_init_91 (by decide) (fun c => absurd c (by decide)) (fun _ => ?_)
  refine a_lload dX6_init_94 rfl ?_
  refine a_bipush (v := 8) dX6_init_96 (by decide) ?_
  refine a_lshl dX6_init_98 ?_
  refine a_st (st2 := [.long 26880]) (by decide) ?_
  refine a_iload_n dX6_init_99 rfl rfl ?_
  refine a_iload dX6_init_100 rfl ?_
  refine a_callS (As := [.int 19, .int 1]) (st := [.long 26880]) (bc := 0) (bs := 0) (mc := 0) (ms := 0) true dX6_init_102 mw_X10_wordLetter rfl (Or.inr ⟨rfl, mn_X6_50⟩) sm_X10_wordLetter rfl (by decide) (k_wordLetter (fr := fr) (c := 19) (i := 1) (by decide) (by decide) (by decide) (by decide +kernel) (by unfold vp_in; decide +kernel)) (fun v M1 hq => ?_)
  obtain ⟨rfl, hM1⟩ := hq
  rw [hM1]
  clear hM1 M1
  refine a_st (st2 := [.int 110, .long 26880]) (by decide +kernel) ?_
  refine a_i2l dX6_init_105 ?_
  refine a_st (st2 := [.long 110, .long 26880]) (by decide) ?_
  refine a_lor dX6_init_106 ?_
  refine a_st (st2 := [.long 26990]) (by decide) ?_
  refine a_lstore dX6_init_107 (Nat.le_of_ble_eq_true rfl) (lv2 := [(4, .long 26990), (6, .int 1), (3, .int 19), (0, .ref 14), (1, .ref 2), (2, .ref 1)]) rfl ?_
  refine a_iinc (v := 2) dX6_init_109 rfl (by decide) (Nat.le_of_ble_eq_true rfl) (lv2 := [(6, .int 2), (4, .long 26990), (3, .int 19), (0, .ref 14), (1, .ref 2), (2, .ref 1)]) rfl ?_
  refine a_goto 85 dX6_init_112 (by decide) ?_
  refine a_iload dX6_init_85 rfl ?_
  refine a_iload_n dX6_init_87 rfl rfl ?_
  refine a_callS (As := [.int 19]) (st := [.int 2]) (bc := 0) (bs := 0) (mc := 0) (ms := 0) true dX6_init_88 mw_X10_wordLength rfl (Or.inr ⟨rfl, mn_X6_46⟩) sm_X10_wordLength rfl (by decide) (k_wordLength (fr := fr + 4) 19) (fun v M1 hq => ?_)
  obtain ⟨rfl, hM1⟩ := hq
  rw [hM1]
  clear hM1 M1
  refine a_st (st2 := [.int 3, .int 2]) (by decide +kernel) ?_
  refine a_icmp_ge 115 dX6_init_91 (by decide) (fun c => absurd c (by decide)) (fun _ => ?_)
  refine a_lload dX6_init_94 rfl ?_
  refine a_bipush (v := 8) dX6_init_96 (by decide) ?_
  refine a_lshl dX6_init_98 ?_
  refine a_st (st2 := [.long 6909440]) (by decide) ?_
  refine a_iload_n dX6_init_99 rfl rfl ?_
  refine a_iload dX6_init_100 rfl ?_
  refine a_callS (As := [.int 19, .int 2]) (st := [.long 6909440]) (bc := 0) (bs := 0) (mc := 0) (ms := 0) true dX6_init_102 mw_X10_wordLetter rfl (Or.inr ⟨rfl, mn_X6_50⟩) sm_X10_wordLetter rfl (by decide) (k_wordLetter (fr := fr) (c := 19) (i := 2) (by decide) (by decide) (by decide) (by decide +kernel) (by unfold vp_in; decide +kernel)) (fun v M1 hq => ?_)
  obtain ⟨rfl, hM1⟩ := hq
  rw [hM1]
  clear hM1 M1
  refine a_st (st2 := [.int 114, .long 6909440]) (by decide +kernel) ?_
  refine a_i2l dX6_init_105 ?_
  refine a_st (st2 := [.long 114, .long 6909440]) (by decide) ?_
  refine a_lor dX6_init_106 ?_
  refine a_st (st2 := [.long 6909554]) (by decide) ?_
  refine a_lstore dX6_init_107 (Nat.le_of_ble_eq_true rfl) (lv2 := [(4, .long 6909554), (6, .int 2), (3, .int 19), (0, .ref 14), (1, .ref 2), (2, .ref 1)]) rfl ?_
  refine a_iinc (v := 3) dX6_init_109 rfl (by decide) (Nat.le_of_ble_eq_true rfl) (lv2 := [(6, .int 3), (4, .long 6909554), (3, .int 19), (0, .ref 14), (1, .ref 2), (2, .ref 1)]) rfl ?_
  refine a_goto 85 dX6_init_112 (by decide) ?_
  refine a_iload dX6_init_85 rfl ?_
  refine a_iload_n dX6_init_87 rfl rfl ?_
  refine a_callS (As := [.int 19]) (st := [.int 3]) (bc := 0) (bs := 0) (mc := 0) (ms := 0) true dX6_init_88 mw_X10_wordLength rfl (Or.inr ⟨rfl, mn_X6_46⟩) sm_X10_wordLength rfl (by decide) (k_wordLength (fr := fr + 4) 19) (fun v M1 hq => ?_)
  obtain ⟨rfl, hM1⟩ := hq
  rw [hM1]
  clear hM1 M1
  refine a_st (st2 := [.int 3, .int 3]) (by decide +kernel) ?_
  refine a_icmp_ge 115 dX6_init_91 (by decide) (fun _ => ?_) (fun c => absurd c (by decide))
  refine a_aload_n dX6_init_115 rfl rfl ?_
  refine a_get (v := .ref 15) dX6_init_116 fl_6_9 (cw_l h35 (by decide)) (cw_s h35 (by decide) rfl) (cw_g h35 rfl (by decide +kernel)) ?_
  refine a_iload_n dX6_init_119 rfl rfl ?_
  refine a_lload dX6_init_120 rfl ?_
  refine a_lastore dX6_init_122 (cw_l h35 (by decide)) (cw_s h35 (by decide) rfl) (by unfold vp_in; decide +kernel) ?_
  rw [show Int32.toNatClampNeg 19 = 19 from by decide +kernel]
  have h36 : Cw 24 Lj24 fs30 gs29 (wJ M35 15 19 6909554) := cw_J h35 (by decide)
  generalize (wJ M35 15 19 6909554) = M36 at h36 ⊢
  refine a_iinc (v := 20) dX6_init_123 rfl (by decide) (Nat.le_of_ble_eq_true rfl) (lv2 := [(3, .int 20), (6, .int 3), (4, .long 6909554), (0, .ref 14), (1, .ref 2), (2, .ref 1)]) rfl ?_
  refine a_goto 73 dX6_init_126 (by decide) ?_
  refine a_iload_n dX6_init_73 rfl rfl ?_
  refine a_bipush (v := 22) dX6_init_74 (by decide) ?_
  refine a_icmp_ge 129 dX6_init_76 (by decide) (fun c => absurd c (by decide)) (fun _ => ?_)
  refine a_lconst (v := 0) dX6_init_79 (by decide) ?_
  refine a_lstore dX6_init_80 (Nat.le_of_ble_eq_true rfl) (lv2 := [(4, .long 0), (3, .int 20), (6, .int 3), (0, .ref 14), (1, .ref 2), (2, .ref 1)]) rfl ?_
  refine a_iconst (v := 0) dX6_init_82 (by decide) ?_
  refine a_istore dX6_init_83 (Nat.le_of_ble_eq_true rfl) (lv2 := [(6, .int 0), (4, .long 0), (3, .int 20), (0, .ref 14), (1, .ref 2), (2, .ref 1)]) rfl ?_
  refine a_iload dX6_init_85 rfl ?_
  refine a_iload_n dX6_init_87 rfl rfl ?_
  refine a_callS (As := [.int 20]) (st := [.int 0]) (bc := 0) (bs := 0) (mc := 0) (ms := 0) true dX6_init_88 mw_X10_wordLength rfl (Or.inr ⟨rfl, mn_X6_46⟩) sm_X10_wordLength rfl (by decide) (k_wordLength (fr := fr + 4) 20) (fun v M1 hq => ?_)
  obtain ⟨rfl, hM1⟩ := hq
  rw [hM1]
  clear hM1 M1
  refine a_st (st2 := [.int 4, .int 0]) (by decide +kernel) ?_
  refine a_icmp_ge 115 dX6_init_91 (by decide) (fun c => absurd c (by decide)) (fun _ => ?_)
  refine a_lload dX6_init_94 rfl ?_
  refine a_bipush (v := 8) dX6_init_96 (by decide) ?_
  refine a_lshl dX6_init_98 ?_
  refine a_st (st2 := [.long 0]) (by decide) ?_
  refine a_iload_n dX6_init_99 rfl rfl ?_
  refine a_iload dX6_init_100 rfl ?_
  refine a_callS (As := [.int 20, .int 0]) (st := [.long 0]) (bc := 0) (bs := 0) (mc := 0) (ms := 0) true dX6_init_102 mw_X10_wordLetter rfl (Or.inr ⟨rfl, mn_X6_50⟩) sm_X10_wordLetter rfl (by decide) (k_wordLetter (fr := fr) (c := 20) (i := 0) (by decide) (by decide) (by decide) (by decide +kernel) (by unfold vp_in; decide +kernel)) (fun v M1 hq => ?_)
  obtain ⟨rfl, hM1⟩ := hq
  rw [hM1]
  clear hM1 M1
  refine a_st (st2 := [.int 99, .long 0]) (by decide +kernel) ?_
  refine a_i2l dX6_init_105 ?_
  refine a_st (st2 := [.long 99, .long 0]) (by decide) ?_
  refine a_lor dX6_init_106 ?_
  refine a_st (st2 := [.long 99]) (by decide) ?_
  refine a_lstore dX6_init_107 (Nat.le_of_ble_eq_true rfl) (lv2 := [(4, .long 99), (6, .int 0), (3, .int 20), (0, .ref 14), (1, .ref 2), (2, .ref 1)]) rfl ?_
  refine a_iinc (v := 1) dX6_init_109 rfl (by decide) (Nat.le_of_ble_eq_true rfl) (lv2 := [(6, .int 1), (4, .long 99), (3, .int 20), (0, .ref 14), (1, .ref 2), (2, .ref 1)]) rfl ?_
  refine a_goto 85 dX6_init_112 (by decide) ?_
  refine a_iload dX6_init_85 rfl ?_
  refine a_iload_n dX6_init_87 rfl rfl ?_
  refine a_callS (As := [.int 20]) (st := [.int 1]) (bc := 0) (bs := 0) (mc := 0) (ms := 0) true dX6_init_88 mw_X10_wordLength rfl (Or.inr ⟨rfl, mn_X6_46⟩) sm_X10_wordLength rfl (by decide) (k_wordLength (fr := fr + 4) 20) (fun v M1 hq => ?_)
  obtain ⟨rfl, hM1⟩ := hq
  rw [hM1]
  clear hM1 M1
  refine a_st (st2 := [.int 4, .int 1]) (by decide +kernel) ?_
  refine a_icmp_ge 115 dX6_init_91 (by decide) (fun c => absurd c (by decide)) (fun _ => ?_)
  refine a_lload dX6_init_94 rfl ?_
  refine a_bipush (v := 8) dX6_init_96 (by decide) ?_
  refine a_lshl dX6_init_98 ?_
  refine a_st (st2 := [.long 25344]) (by decide) ?_
  refine a_iload_n dX6_init_99 rfl rfl ?_
  refine a_iload dX6_init_100 rfl ?_
  refine a_callS (As := [.int 20, .int 1]) (st := [.long 25344]) (bc := 0) (bs := 0) (mc := 0) (ms := 0) true dX6_init_102 mw_X10_wordLetter rfl (Or.inr ⟨rfl, mn_X6_50⟩) sm_X10_wordLetter rfl (by decide) (k_wordLetter (fr := fr) (c := 20) (i := 1) (by decide) (by decide) (by decide) (by decide +kernel) (by unfold vp_in; decide +kernel)) (fun v M1 hq => ?_)
  obtain ⟨rfl, hM1⟩ := hq
  rw [hM1]
  clear hM1 M1
  refine a_st (st2 := [.int 97, .long 25344]) (by decide +kernel) ?_
  refine a_i2l dX6_init_105 ?_
  refine a_st (st2 := [.long 97, .long 25344]) (by decide) ?_
  refine a_lor dX6_init_106 ?_
  refine a_st (st2 := [.long 25441]) (by decide) ?_
  refine a_lstore dX6_init_107 (Nat.le_of_ble_eq_true rfl) (lv2 := [(4, .long 25441), (6, .int 1), (3, .int 20), (0, .ref 14), (1, .ref 2), (2, .ref 1)]) rfl ?_
  refine a_iinc (v := 2) dX6_init_109 rfl (by decide) (Nat.le_of_ble_eq_true rfl) (lv2 := [(6, .int 2), (4, .long 25441), (3, .int 20), (0, .ref 14), (1, .ref 2), (2, .ref 1)]) rfl ?_
  refine a_goto 85 dX6_init_112 (by decide) ?_
  refine a_iload dX6_init_85 rfl ?_
  refine a_iload_n dX6_init_87 rfl rfl ?_
  refine a_callS (As := [.int 20]) (st := [.int 2]) (bc := 0) (bs := 0) (mc := 0) (ms := 0) true dX6_init_88 mw_X10_wordLength rfl (Or.inr ⟨rfl, mn_X6_46⟩) sm_X10_wordLength rfl (by decide) (k_wordLength (fr := fr + 4) 20) (fun v M1 hq => ?_)
  obtain ⟨rfl, hM1⟩ := hq
  rw [hM1]
  clear hM1 M1
  refine a_st (st2 := [.int 4, .int 2]) (by decide +kernel) ?_
  refine a_icmp_ge 115 dX6_init_91 (by decide) (fun c => absurd c (by decide)) (fun _ => ?_)
  refine a_lload dX6_init_94 rfl ?_
  refine a_bipush (v := 8) dX6_init_96 (by decide) ?_
  refine a_lshl dX6_init_98 ?_
  refine a_st (st2 := [.long 6512896]) (by decide) ?_
  refine a_iload_n dX6_init_99 rfl rfl ?_
  refine a_iload dX6_init_100 rfl ?_
  refine a_callS (As := [.int 20, .int 2]) (st := [.long 6512896]) (bc := 0) (bs := 0) (mc := 0) (ms := 0) true dX6_init_102 mw_X10_wordLetter rfl (Or.inr ⟨rfl, mn_X6_50⟩) sm_X10_wordLetter rfl (by decide) (k_wordLetter (fr := fr) (c := 20) (i := 2) (by decide) (by decide) (by decide) (by decide +kernel) (by unfold vp_in; decide +kernel)) (fun v M1 hq => ?_)
  obtain ⟨rfl, hM1⟩ := hq
  rw [hM1]
  clear hM1 M1
  refine a_st (st2 := [.int 115, .long 6512896]) (by decide +kernel) ?_
  refine a_i2l dX6_init_105 ?_
  refine a_st (st2 := [.long 115, .long 6512896]) (by decide) ?_
  refine a_lor dX6_init_106 ?_
  refine a_st (st2 := [.long 6513011]) (by decide) ?_
  refine a_lstore dX6_init_107 (Nat.le_of_ble_eq_true rfl) (lv2 := [(4, .long 6513011), (6, .int 2), (3, .int 20), (0, .ref 14), (1, .ref 2), (2, .ref 1)]) rfl ?_
  refine a_iinc (v := 3) dX6_init_109 rfl (by decide) (Nat.le_of_ble_eq_true rfl) (lv2 := [(6, .int 3), (4, .long 6513011), (3, .int 20), (0, .ref 14), (1, .ref 2), (2, .ref 1)]) rfl ?_
  refine a_goto 85 dX6_init_112 (by decide) ?_
  refine a_iload dX6_init_85 rfl ?_
  refine a_iload_n dX6_init_87 rfl rfl ?_
  refine a_callS (As := [.int 20]) (st := [.int 3]) (bc := 0) (bs := 0) (mc := 0) (ms := 0) true dX6_init_88 mw_X10_wordLength rfl (Or.inr ⟨rfl, mn_X6_46⟩) sm_X10_wordLength rfl (by decide) (k_wordLength (fr := fr + 4) 20) (fun v M1 hq => ?_)
  obtain ⟨rfl, hM1⟩ := hq
  rw [hM1]
  clear hM1 M1
  refine a_st (st2 := [.int 4, .int 3]) (by decide +kernel) ?_
  refine a_icmp_ge 115 dX6_init_91 (by decide) (fun c => absurd c (by decide)) (fun _ => ?_)
  refine a_lload dX6_init_94 rfl ?_
  refine a_bipush (v := 8) dX6_init_96 (by decide) ?_
  refine a_lshl dX6_init_98 ?_
  refine a_st (st2 := [.long 1667330816]) (by decide) ?_
  refine a_iload_n dX6_init_99 rfl rfl ?_
  refine a_iload dX6_init_100 rfl ?_
  refine a_callS (As := [.int 20, .int 3]) (st := [.long 1667330816]) (bc := 0) (bs := 0) (mc := 0) (ms := 0) true dX6_init_102 mw_X10_wordLetter rfl (Or.inr ⟨rfl, mn_X6_50⟩) sm_X10_wordLetter rfl (by decide) (k_wordLetter (fr := fr) (c := 20) (i := 3) (by decide) (by decide) (by decide) (by decide +kernel) (by unfold vp_in; decide +kernel)) (fun v M1 hq => ?_)
  obtain ⟨rfl, hM1⟩ := hq
  rw [hM1]
  clear hM1 M1
  refine a_st (st2 := [.int 101, .long 1667330816]) (by decide +kernel) ?_
  refine a_i2l dX6_init_105 ?_
  refine a_st (st2 := [.long 101, .long 1667330816]) (by decide) ?_
  refine a_lor dX6_init_106 ?_
  refine a_st (st2 := [.long 1667330917]) (by decide) ?_
  refine a_lstore dX6_init_107 (Nat.le_of_ble_eq_true rfl) (lv2 := [(4, .long 1667330917), (6, .int 3), (3, .int 20), (0, .ref 14), (1, .ref 2), (2, .ref 1)]) rfl ?_
  refine a_iinc (v := 4) dX6_init_109 rfl (by decide) (Nat.le_of_ble_eq_true rfl) (lv2 := [(6, .int 4), (4, .long 1667330917), (3, .int 20), (0, .ref 14), (1, .ref 2), (2, .ref 1)]) rfl ?_
  refine a_goto 85 dX6_init_112 (by decide) ?_
  refine a_iload dX6_init_85 rfl ?_
  refine a_iload_n dX6_init_87 rfl rfl ?_
  refine a_callS (As := [.int 20]) (st := [.int 4]) (bc := 0) (bs := 0) (mc := 0) (ms := 0) true dX6_init_88 mw_X10_wordLength rfl (Or.inr ⟨rfl, mn_X6_46⟩) sm_X10_wordLength rfl (by decide) (k_wordLength (fr := fr + 4) 20) (fun v M1 hq => ?_)
  obtain ⟨rfl, hM1⟩ := hq
  rw [hM1]
  clear hM1 M1
  refine a_st (st2 := [.int 4, .int 4]) (by decide +kernel) ?_
  refine a_icmp_ge 115 dX6_init_91 (by decide) (fun _ => ?_) (fun c => absurd c (by decide))
  refine a_aload_n dX6_init_115 rfl rfl ?_
  refine a_get (v := .ref 15) dX6_init_116 fl_6_9 (cw_l h36 (by decide)) (cw_s h36 (by decide) rfl) (cw_g h36 rfl (by decide +kernel)) ?_
  refine a_iload_n dX6_init_119 rfl rfl ?_
  refine a_lload dX6_init_120 rfl ?_
  refine a_lastore dX6_init_122 (cw_l h36 (by decide)) (cw_s h36 (by decide) rfl) (by unfold vp_in; decide +kernel) ?_
  rw [show Int32.toNatClampNeg 20 = 20 from by decide +kernel]
  have h37 : Cw 24 Lj24 fs30 gs30 (wJ M36 15 20 1667330917) := cw_J h36 (by decide)
  generalize (wJ M36 15 20 1667330917) = M37 at h37 ⊢
  refine a_iinc (v := 21) dX6_init_123 rfl (by decide) (Nat.le_of_ble_eq_true rfl) (lv2 := [(3, .int 21), (6, .int 4), (4, .long 1667330917), (0, .ref 14), (1, .ref 2), (2, .ref 1)]) rfl ?_
  refine a_goto 73 dX6_init_126 (by decide) ?_
  refine a_iload_n dX6_init_73 rfl rfl ?_
  refine a_bipush (v := 22) dX6_init_74 (by decide) ?_
  refine a_icmp_ge 129 dX6_init_76 (by decide) (fun c => absurd c (by decide)) (fun _ => ?_)
  refine a_lconst (v := 0) dX6_init_79 (by decide) ?_
  refine a_lstore dX6_init_80 (Nat.le_of_ble_eq_true rfl) (lv2 := [(4, .long 0), (3, .int 21), (6, .int 4), (0, .ref 14), (1, .ref 2), (2, .ref 1)]) rfl ?_
  refine a_iconst (v := 0) dX6_init_82 (by decide) ?_
  refine a_istore dX6_init_83 (Nat.le_of_ble_eq_true rfl) (lv2 := [(6, .int 0), (4, .long 0), (3, .int 21), (0, .ref 14), (1, .ref 2), (2, .ref 1)]) rfl ?_
  refine a_iload dX6_init_85 rfl ?_
  refine a_iload_n dX6_init_87 rfl rfl ?_
  refine a_callS (As := [.int 21]) (st := [.int 0]) (bc := 0) (bs := 0) (mc := 0) (ms := 0) true dX6_init_88 mw_X10_wordLength rfl (Or.inr ⟨rfl, mn_X6_46⟩) sm_X10_wordLength rfl (by decide) (k_wordLength (fr := fr + 4) 21) (fun v M1 hq => ?_)
  obtain ⟨rfl, hM1⟩ := hq
  rw [hM1]
  clear hM1 M1
  refine a_st (st2 := [.int 5, .int 0]) (by decide +kernel) ?_
  refine a_icmp_ge 115 dX6_init_91 (by decide) (fun c => absurd c (by decide)) (fun _ => ?_)
  refine a_lload dX6_init_94 rfl ?_
  refine a_bipush (v := 8) dX6_init_96 (by decide) ?_
  refine a_lshl dX6_init_98 ?_
  refine a_st (st2 := [.long 0]) (by decide) ?_
  refine a_iload_n dX6_init_99 rfl rfl ?_
  refine a_iload dX6_init_100 rfl ?_
  refine a_callS (As := [.int 21, .int 0]) (st := [.long 0]) (bc := 0) (bs := 0) (mc := 0) (ms := 0) true dX6_init_102 mw_X10_wordLetter rfl (Or.inr ⟨rfl, mn_X6_50⟩) sm_X10_wordLetter rfl (by decide) (k_wordLetter (fr := fr) (c := 21) (i := 0) (by decide) (by decide) (by decide) (by decide +kernel) (by unfold vp_in; decide +kernel)) (fun v M1 hq => ?_)
  obtain ⟨rfl, hM1⟩ := hq
  rw [hM1]
  clear hM1 M1
  refine a_st (st2 := [.int 97, .long 0]) (by decide +kernel) ?_
  refine a_i2l dX6_init_105 ?_
  refine a_st (st2 := [.long 97, .long 0]) (by decide) ?_
  refine a_lor dX6_init_106 ?_
  refine a_st (st2 := [.long 97]) (by decide) ?_
  refine a_lstore dX6_init_107 (Nat.le_of_ble_eq_true rfl) (lv2 := [(4, .long 97), (6, .int 0), (3, .int 21), (0, .ref 14), (1, .ref 2), (2, .ref 1)]) rfl ?_
  refine a_iinc (v := 1) dX6_init_109 rfl (by decide) (Nat.le_of_ble_eq_true rfl) (lv2 := [(6, .int 1), (4, .long 97), (3, .int 21), (0, .ref 14), (1, .ref 2), (2, .ref 1)]) rfl ?_
  refine a_goto 85 dX6_init_112 (by decide) ?_
  refine a_iload dX6_init_85 rfl ?_
  refine a_iload_n dX6_init_87 rfl rfl ?_
  refine a_callS (As := [.int 21]) (st := [.int 1]) (bc := 0) (bs := 0) (mc := 0) (ms := 0) true dX6_init_88 mw_X10_wordLength rfl (Or.inr ⟨rfl, mn_X6_46⟩) sm_X10_wordLength rfl (by decide) (k_wordLength (fr := fr + 4) 21) (fun v M1 hq => ?_)
  obtain ⟨rfl, hM1⟩ := hq
  rw [hM1]
  clear hM1 M1
  refine a_st (st2 := [.int 5, .int 1]) (by decide +kernel) ?_
  refine a_icmp_ge 115 dX6_init_91 (by decide) (fun c => absurd c (by decide)) (fun _ => ?_)
  refine a_lload dX6_init_94 rfl ?_
  refine a_bipush (v := 8) dX6_init_96 (by decide) ?_
  refine a_lshl dX6_init_98 ?_
  refine a_st (st2 := [.long 24832]) (by decide) ?_
  refine a_iload_n dX6_init_99 rfl rfl ?_
  refine a_iload dX6_init_100 rfl ?_
  refine a_callS (As := [.int 21, .int 1]) (st := [.long 24832]) (bc := 0) (bs := 0) (mc := 0) (ms := 0) true dX6_init_102 mw_X10_wordLetter rfl (Or.inr ⟨rfl, mn_X6_50⟩) sm_X10_wordLetter rfl (by decide) (k_wordLetter (fr := fr) (c := 21) (i := 1) (by decide) (by decide) (by decide) (by decide +kernel) (by unfold vp_in; decide +kernel)) (fun v M1 hq => ?_)
  obtain ⟨rfl, hM1⟩ := hq
  rw [hM1]
  clear hM1 M1
  refine a_st (st2 := [.int 98, .long 24832]) (by decide +kernel) ?_
  refine a_i2l dX6_init_105 ?_
  refine a_st (st2 := [.long 98, .long 24832]) (by decide) ?_
  refine a_lor dX6_init_106 ?_
  refine a_st (st2 := [.long 24930]) (by decide) ?_
  refine a_lstore dX6_init_107 (Nat.le_of_ble_eq_true rfl) (lv2 := [(4, .long 24930), (6, .int 1), (3, .int 21), (0, .ref 14), (1, .ref 2), (2, .ref 1)]) rfl ?_
  refine a_iinc (v := 2) dX6_init_109 rfl (by decide) (Nat.le_of_ble_eq_true rfl) (lv2 := [(6, .int 2), (4, .long 24930), (3, .int 21), (0, .ref 14), (1, .ref 2), (2, .ref 1)]) rfl ?_
  refine a_goto 85 dX6_init_112 (by decide) ?_
  refine a_iload dX6_init_85 rfl ?_
  refine a_iload_n dX6_init_87 rfl rfl ?_
  refine a_callS (As := [.int 21]) (st := [.int 2]) (bc := 0) (bs := 0) (mc := 0) (ms := 0) true dX6_init_88 mw_X10_wordLength rfl (Or.inr ⟨rfl, mn_X6_46⟩) sm_X10_wordLength rfl (by decide) (k_wordLength (fr := fr + 4) 21) (fun v M1 hq => ?_)
  obtain ⟨rfl, hM1⟩ := hq
  rw [hM1]
  clear hM1 M1
  refine a_st (st2 := [.int 5, .int 2]) (by decide +kernel) ?_
  refine a_icmp_ge 115 dX6_init_91 (by decide) (fun c => absurd c (by decide)) (fun _ => ?_)
  refine a_lload dX6_init_94 rfl ?_
  refine a_bipush (v := 8) dX6_init_96 (by decide) ?_
  refine a_lshl dX6_init_98 ?_
  refine a_st (st2 := [.long 6382080]) (by decide) ?_
  refine a_iload_n dX6_init_99 rfl rfl ?_
  refine a_iload dX6_init_100 rfl ?_
  refine a_callS (As := [.int 21, .int 2]) (st := [.long 6382080]) (bc := 0) (bs := 0) (mc := 0) (ms := 0) true dX6_init_102 mw_X10_wordLetter rfl (Or.inr ⟨rfl, mn_X6_50⟩) sm_X10_wordLetter rfl (by decide) (k_wordLetter (fr := fr) (c := 21) (i := 2) (by decide) (by decide) (by decide) (by decide +kernel) (by unfold vp_in; decide +kernel)) (fun v M1 hq => ?_)
  obtain ⟨rfl, hM1⟩ := hq
  rw [hM1]
  clear hM1 M1
  refine a_st (st2 := [.int 111, .long 6382080]) (by decide +kernel) ?_
  refine a_i2l dX6_init_105 ?_
  refine a_st (st2 := [.long 111, .long 6382080]) (by decide) ?_
  refine a_lor dX6_init_106 ?_
  refine a_st (st2 := [.long 6382191]) (by decide) ?_
  refine a_lstore dX6_init_107 (Nat.le_of_ble_eq_true rfl) (lv2 := [(4, .long 6382191), (6, .int 2), (3, .int 21), (0, .ref 14), (1, .ref 2), (2, .ref 1)]) rfl ?_
  refine a_iinc (v := 3) dX6_init_109 rfl (by decide) (Nat.le_of_ble_eq_true rfl) (lv2 := [(6, .int 3), (4, .long 6382191), (3, .int 21), (0, .ref 14), (1, .ref 2), (2, .ref 1)]) rfl ?_
  refine a_goto 85 dX6_init_112 (by decide) ?_
  refine a_iload dX6_init_85 rfl ?_
  refine a_iload_n dX6_init_87 rfl rfl ?_
  refine a_callS (As := [.int 21]) (st := [.int 3]) (bc := 0) (bs := 0) (mc := 0) (ms := 0) true dX6_init_88 mw_X10_wordLength rfl (Or.inr ⟨rfl, mn_X6_46⟩) sm_X10_wordLength rfl (by decide) (k_wordLength (fr := fr + 4) 21) (fun v M1 hq => ?_)
  obtain ⟨rfl, hM1⟩ := hq
  rw [hM1]
  clear hM1 M1
  refine a_st (st2 := [.int 5, .int 3]) (by decide +kernel) ?_
  refine a_icmp_ge 115 dX6_init_91 (by decide) (fun c => absurd c (by decide)) (fun _ => ?_)
  refine a_lload dX6_init_94 rfl ?_
  refine a_bipush (v := 8) dX6_init_96 (by decide) ?_
  refine a_lshl dX6_init_98 ?_
  refine a_st (st2 := [.long 1633840896]) (by decide) ?_
  refine a_iload_n dX6_init_99 rfl rfl ?_
  refine a_iload dX6_init_100 rfl ?_
  refine a_callS (As := [.int 21, .int 3]) (st := [.long 1633840896]) (bc := 0) (bs := 0) (mc := 0) (ms := 0) true dX6_init_102 mw_X10_wordLetter rfl (Or.inr ⟨rfl, mn_X6_50⟩) sm_X10_wordLetter rfl (by decide) (k_wordLetter (fr := fr) (c := 21) (i := 3) (by decide) (by decide) (by decide) (by decide +kernel) (by unfold vp_in; decide +kernel)) (fun v M1 hq => ?_)
  obtain ⟨rfl, hM1⟩ := hq
  rw [hM1]
  clear hM1 M1
  refine a_st (st2 := [.int 114, .long 1633840896]) (by decide +kernel) ?_
  refine a_i2l dX6_init_105 ?_
  refine a_st (st2 := [.long 114, .long 1633840896]) (by decide) ?_
  refine a_lor dX6_init_106 ?_
  refine a_st (st2 := [.long 1633841010]) (by decide) ?_
  refine a_lstore dX6_init_107 (Nat.le_of_ble_eq_true rfl) (lv2 := [(4, .long 1633841010), (6, .int 3), (3, .int 21), (0, .ref 14), (1, .ref 2), (2, .ref 1)]) rfl ?_
  refine a_iinc (v := 4) dX6_init_109 rfl (by decide) (Nat.le_of_ble_eq_true rfl) (lv2 := [(6, .int 4), (4, .long 1633841010), (3, .int 21), (0, .ref 14), (1, .ref 2), (2, .ref 1)]) rfl ?_
  refine a_goto 85 dX6_init_112 (by decide) ?_
  refine a_iload dX6_init_85 rfl ?_
  refine a_iload_n dX6_init_87 rfl rfl ?_
  refine a_callS (As := [.int 21]) (st := [.int 4]) (bc := 0) (bs := 0) (mc := 0) (ms := 0) true dX6_init_88 mw_X10_wordLength rfl (Or.inr ⟨rfl, mn_X6_46⟩) sm_X10_wordLength rfl (by decide) (k_wordLength (fr := fr + 4) 21) (fun v M1 hq => ?_)
  obtain ⟨rfl, hM1⟩ := hq
  rw [hM1]
  clear hM1 M1
  refine a_st (st2 := [.int 5, .int 4]) (by decide +kernel) ?_
  refine a_icmp_ge 115 dX6_init_91 (by decide) (fun c => absurd c (by decide)) (fun _ => ?_)
  refine a_lload dX6_init_94 rfl ?_
  refine a_bipush (v := 8) dX6_init_96 (by decide) ?_
  refine a_lshl dX6_init_98 ?_
  refine a_st (st2 := [.long 418263298560]) (by decide) ?_
  refine a_iload_n dX6_init_99 rfl rfl ?_
  refine a_iload dX6_init_100 rfl ?_
  refine a_callS (As := [.int 21, .int 4]) (st := [.long 418263298560]) (bc := 0) (bs := 0) (mc := 0) (ms := 0) true dX6_init_102 mw_X10_wordLetter rfl (Or.inr ⟨rfl, mn_X6_50⟩) sm_X10_wordLetter rfl (by decide) (k_wordLetter (fr := fr) (c := 21) (i := 4) (by decide) (by decide) (by decide) (by decide +kernel) (by unfold vp_in; decide +kernel)) (fun v M1 hq => ?_)
  obtain ⟨rfl, hM1⟩ := hq
  rw [hM1]
  clear hM1 M1
  refine a_st (st2 := [.int 116, .long 418263298560]) (by decide +kernel) ?_
  refine a_i2l dX6_init_105 ?_
  refine a_st (st2 := [.long 116, .long 418263298560]) (by decide) ?_
  refine a_lor dX6_init_106 ?_
  refine a_st (st2 := [.long 418263298676]) (by decide) ?_
  refine a_lstore dX6_init_107 (Nat.le_of_ble_eq_true rfl) (lv2 := [(4, .long 418263298676), (6, .int 4), (3, .int 21), (0, .ref 14), (1, .ref 2), (2, .ref 1)]) rfl ?_
  refine a_iinc (v := 5) dX6_init_109 rfl (by decide) (Nat.le_of_ble_eq_true rfl) (lv2 := [(6, .int 5), (4, .long 418263298676), (3, .int 21), (0, .ref 14), (1, .ref 2), (2, .ref 1)]) rfl ?_
  refine a_goto 85 dX6_init_112 (by decide) ?_
  refine a_iload dX6_init_85 rfl ?_
  refine a_iload_n dX6_init_87 rfl rfl ?_
  refine a_callS (As := [.int 21]) (st := [.int 5]) (bc := 0) (bs := 0) (mc := 0) (ms := 0) true dX6_init_88 mw_X10_wordLength rfl (Or.inr ⟨rfl, mn_X6_46⟩) sm_X10_wordLength rfl (by decide) (k_wordLength (fr := fr + 4) 21) (fun v M1 hq => ?_)
  obtain ⟨rfl, hM1⟩ := hq
  rw [hM1]
  clear hM1 M1
  refine a_st (st2 := [.int 5, .int 5]) (by decide +kernel) ?_
  refine a_icmp_ge 115 dX6_init_91 (by decide) (fun _ => ?_) (fun c => absurd c (by decide))
  refine a_aload_n dX6_init_115 rfl rfl ?_
  refine a_get (v := .ref 15) dX6_init_116 fl_6_9 (cw_l h37 (by decide)) (cw_s h37 (by decide) rfl) (cw_g h37 rfl (by decide +kernel)) ?_
  refine a_iload_n dX6_init_119 rfl rfl ?_
  refine a_lload dX6_init_120 rfl ?_
  refine a_lastore dX6_init_122 (cw_l h37 (by decide)) (cw_s h37 (by decide) rfl) (by unfold vp_in; decide +kernel) ?_
  rw [show Int32.toNatClampNeg 21 = 21 from by decide +kernel]
  have h38 : Cw 24 Lj24 fs30 gs31 (wJ M37 15 21 418263298676) := cw_J h37 (by decide)
  generalize (wJ M37 15 21 418263298676) = M38 at h38 ⊢
  refine a_iinc (v := 22) dX6_init_123 rfl (by decide) (Nat.le_of_ble_eq_true rfl) (lv2 := [(3, .int 22), (6, .int 5), (4, .long 418263298676), (0, .ref 14), (1, .ref 2), (2, .ref 1)]) rfl ?_
  refine a_goto 73 dX6_init_126 (by decide) ?_
  refine a_iload_n dX6_init_73 rfl rfl ?_
  refine a_bipush (v := 22) dX6_init_74 (by decide) ?_
  refine a_icmp_ge 129 dX6_init_76 (by decide) (fun _ => ?_) (fun c => absurd c (by decide))
  exact a_vret dX6_init_129 rfl ⟨rfl, h38⟩
