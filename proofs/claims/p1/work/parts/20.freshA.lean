set_option maxHeartbeats 4000000 in
set_option maxRecDepth 100000 in
theorem z1_X10_putBytes {X : Nat × (Nat → Int32)} {fr : Nat} {M : Mem} (a : Int32) (b : Int32) (c : Int32) (d : Int32) (e : Int32) (h0 : Cw 126 Lj134 fs42 gs31 M) : AM yX10_putBytes cX10_putBytes 3 none true (fr + 7) 0 0 X [.ref 0, .int a] M (fun v M1 => v = none ∧ Cw 126 Lj134 (up2 (up2 (up2 (up2 (up2 (up2 (up2 (up2 fs42 1 0 ((iushr a 24) &&& 255)) 0 1 1) 1 1 ((iushr a 16) &&& 255)) 0 1 2) 1 2 ((iushr a 8) &&& 255)) 0 1 3) 1 3 ((iushr a 0) &&& 255)) 0 1 4) gs31 M1) := by
  refine AM.of false (by decide +kernel) (by intro h; cases h) (Nat.le_of_ble_eq_true rfl) ?_
  show AW X (RX10, cX10_putBytes, 3, none, false, true, fr + 7) 0 0 0 [(0, .ref 0), (1, .int a)] [] M _
  refine a_bipush (v := 24) dX10_putBytes_0 (by decide) ?_
  refine a_istore_n dX10_putBytes_2 rfl (Nat.le_of_ble_eq_true rfl) (lv2 := [(2, .int 24), (0, .ref 0), (1, .int a)]) rfl ?_
  refine a_iload_n dX10_putBytes_3 rfl rfl ?_
  refine a_if_lt 49 dX10_putBytes_4 (by decide) (fun c => absurd c (by decide)) (fun _ => ?_)
  refine a_aload_n dX10_putBytes_7 rfl rfl ?_
  refine a_get (v := .int 0) dX10_putBytes_8 fl_10_112 (cw_l h0 (by decide)) (cw_s h0 (by decide) rfl) (cw_gi h0 rfl (by decide) (by first | decide +kernel | rfl)) ?_
  refine a_sipush (v := 600) dX10_putBytes_11 (by decide) ?_
  refine a_icmp_ge 49 dX10_putBytes_14 (by decide) (fun c => absurd c (by decide)) (fun _ => ?_)
  refine a_aload_n dX10_putBytes_17 rfl rfl ?_
  refine a_get (v := .ref 1) dX10_putBytes_18 fl_10_9 (cw_l h0 (by decide)) (cw_s h0 (by decide) rfl) (cw_g h0 rfl (by decide +kernel)) ?_
  refine a_aload_n dX10_putBytes_21 rfl rfl ?_
  refine a_get (v := .int 0) dX10_putBytes_22 fl_10_112 (cw_l h0 (by decide)) (cw_s h0 (by decide) rfl) (cw_gi h0 rfl (by decide) (by first | decide +kernel | rfl)) ?_
  refine a_iload_n dX10_putBytes_25 rfl rfl ?_
  refine a_iload_n dX10_putBytes_26 rfl rfl ?_
  refine a_iushr dX10_putBytes_27 ?_
  refine a_sipush (v := 255) dX10_putBytes_28 (by decide) ?_
  refine a_iand dX10_putBytes_31 ?_
  refine a_iastore dX10_putBytes_32 (cw_l h0 (by decide)) (cw_s h0 (by decide) rfl) (by unfold vp_in; decide +kernel) ?_
  rw [show Int32.toNatClampNeg 0 = 0 from by decide +kernel]
  have h1 : Cw 126 Lj134 (up2 fs42 1 0 ((iushr a 24) &&& 255)) gs31 (wI M 1 0 ((iushr a 24) &&& 255)) := cw_I h0 (by decide)
  generalize (wI M 1 0 ((iushr a 24) &&& 255)) = M1 at h1 ⊢
  refine a_aload_n dX10_putBytes_33 rfl rfl ?_
  refine a_dup dX10_putBytes_34 rfl ?_
  refine a_get (v := .int 0) dX10_putBytes_35 fl_10_112 (cw_l h1 (by decide)) (cw_s h1 (by decide) rfl) (cw_gi h1 rfl (by decide) (by first | decide +kernel | rfl)) ?_
  refine a_iconst (v := 1) dX10_putBytes_38 (by decide) ?_
  refine a_iadd dX10_putBytes_39 ?_
  refine a_st (st2 := [.int 1, .ref 0]) (by decide +kernel) ?_
  refine a_putI dX10_putBytes_40 (Or.inl ⟨fl_10_112, Or.inl rfl⟩) rfl (cw_l h1 (by decide)) (cw_s h1 (by decide) rfl) rfl rfl ?_
  have h2 : Cw 126 Lj134 (up2 (up2 fs42 1 0 ((iushr a 24) &&& 255)) 0 1 1) gs31 (wI M1 0 1 1) := cw_I h1 (by decide)
  generalize (wI M1 0 1 1) = M2 at h2 ⊢
  refine a_iinc (v := 16) dX10_putBytes_43 rfl (by decide) (Nat.le_of_ble_eq_true rfl) (lv2 := [(2, .int 16), (0, .ref 0), (1, .int a)]) rfl ?_
  refine a_goto 3 dX10_putBytes_46 (by decide) ?_
  refine a_iload_n dX10_putBytes_3 rfl rfl ?_
  refine a_if_lt 49 dX10_putBytes_4 (by decide) (fun c => absurd c (by decide)) (fun _ => ?_)
  refine a_aload_n dX10_putBytes_7 rfl rfl ?_
  refine a_get (v := .int 1) dX10_putBytes_8 fl_10_112 (cw_l h2 (by decide)) (cw_s h2 (by decide) rfl) (cw_gi h2 rfl (by decide) (by first | decide +kernel | rfl)) ?_
  refine a_sipush (v := 600) dX10_putBytes_11 (by decide) ?_
  refine a_icmp_ge 49 dX10_putBytes_14 (by decide) (fun c => absurd c (by decide)) (fun _ => ?_)
  refine a_aload_n dX10_putBytes_17 rfl rfl ?_
  refine a_get (v := .ref 1) dX10_putBytes_18 fl_10_9 (cw_l h2 (by decide)) (cw_s h2 (by decide) rfl) (cw_g h2 rfl (by decide +kernel)) ?_
  refine a_aload_n dX10_putBytes_21 rfl rfl ?_
  refine a_get (v := .int 1) dX10_putBytes_22 fl_10_112 (cw_l h2 (by decide)) (cw_s h2 (by decide) rfl) (cw_gi h2 rfl (by decide) (by first | decide +kernel | rfl)) ?_
  refine a_iload_n dX10_putBytes_25 rfl rfl ?_
  refine a_iload_n dX10_putBytes_26 rfl rfl ?_
  refine a_iushr dX10_putBytes_27 ?_
  refine a_sipush (v := 255) dX10_putBytes_28 (by decide) ?_
  refine a_iand dX10_putBytes_31 ?_
  refine a_iastore dX10_putBytes_32 (cw_l h2 (by decide)) (cw_s h2 (by decide) rfl) (by unfold vp_in; decide +kernel) ?_
  rw [show Int32.toNatClampNeg 1 = 1 from by decide +kernel]
  have h3 : Cw 126 Lj134 (up2 (up2 (up2 fs42 1 0 ((iushr a 24) &&& 255)) 0 1 1) 1 1 ((iushr a 16) &&& 255)) gs31 (wI M2 1 1 ((iushr a 16) &&& 255)) := cw_I h2 (by decide)
  generalize (wI M2 1 1 ((iushr a 16) &&& 255)) = M3 at h3 ⊢
  refine a_aload_n dX10_putBytes_33 rfl rfl ?_
  refine a_dup dX10_putBytes_34 rfl ?_
  refine a_get (v := .int 1) dX10_putBytes_35 fl_10_112 (cw_l h3 (by decide)) (cw_s h3 (by decide) rfl) (cw_gi h3 rfl (by decide) (by first | decide +kernel | rfl)) ?_
  refine a_iconst (v := 1) dX10_putBytes_38 (by decide) ?_
  refine a_iadd dX10_putBytes_39 ?_
  refine a_st (st2 := [.int 2, .ref 0]) (by decide +kernel) ?_
  refine a_putI dX10_putBytes_40 (Or.inl ⟨fl_10_112, Or.inl rfl⟩) rfl (cw_l h3 (by decide)) (cw_s h3 (by decide) rfl) rfl rfl ?_
  have h4 : Cw 126 Lj134 (up2 (up2 (up2 (up2 fs42 1 0 ((iushr a 24) &&& 255)) 0 1 1) 1 1 ((iushr a 16) &&& 255)) 0 1 2) gs31 (wI M3 0 1 2) := cw_I h3 (by decide)
  generalize (wI M3 0 1 2) = M4 at h4 ⊢
  refine a_iinc (v := 8) dX10_putBytes_43 rfl (by decide) (Nat.le_of_ble_eq_true rfl) (lv2 := [(2, .int 8), (0, .ref 0), (1, .int a)]) rfl ?_
  refine a_goto 3 dX10_putBytes_46 (by decide) ?_
  refine a_iload_n dX10_putBytes_3 rfl rfl ?_
  refine a_if_lt 49 dX10_putBytes_4 (by decide) (fun c => absurd c (by decide)) (fun _ => ?_)
  refine a_aload_n dX10_putBytes_7 rfl rfl ?_
  refine a_get (v := .int 2) dX10_putBytes_8 fl_10_112 (cw_l h4 (by decide)) (cw_s h4 (by decide) rfl) (cw_gi h4 rfl (by decide) (by first | decide +kernel | rfl)) ?_
  refine a_sipush (v := 600) dX10_putBytes_11 (by decide) ?_
  refine a_icmp_ge 49 dX10_putBytes_14 (by decide) (fun c => absurd c (by decide)) (fun _ => ?_)
  refine a_aload_n dX10_putBytes_17 rfl rfl ?_
  refine a_get (v := .ref 1) dX10_putBytes_18 fl_10_9 (cw_l h4 (by decide)) (cw_s h4 (by decide) rfl) (cw_g h4 rfl (by decide +kernel)) ?_
  refine a_aload_n dX10_putBytes_21 rfl rfl ?_
  refine a_get (v := .int 2) dX10_putBytes_22 fl_10_112 (cw_l h4 (by decide)) (cw_s h4 (by decide) rfl) (cw_gi h4 rfl (by decide) (by first | decide +kernel | rfl)) ?_
  refine a_iload_n dX10_putBytes_25 rfl rfl ?_
  refine a_iload_n dX10_putBytes_26 rfl rfl ?_
  refine a_iushr dX10_putBytes_27 ?_
  refine a_sipush (v := 255) dX10_putBytes_28 (by decide) ?_
  refine a_iand dX10_putBytes_31 ?_
  refine a_iastore dX10_putBytes_32 (cw_l h4 (by decide)) (cw_s h4 (by decide) rfl) (by unfold vp_in; decide +kernel) ?_
  rw [show Int32.toNatClampNeg 2 = 2 from by decide +kernel]
  have h5 : Cw 126 Lj134 (up2 (up2 (up2 (up2 (up2 fs42 1 0 ((iushr a 24) &&& 255)) 0 1 1) 1 1 ((iushr a 16) &&& 255)) 0 1 2) 1 2 ((iushr a 8) &&& 255)) gs31 (wI M4 1 2 ((iushr a 8) &&& 255)) := cw_I h4 (by decide)
  generalize (wI M4 1 2 ((iushr a 8) &&& 255)) = M5 at h5 ⊢
  refine a_aload_n dX10_putBytes_33 rfl rfl ?_
  refine a_dup dX10_putBytes_34 rfl ?_
  refine a_get (v := .int 2) dX10_putBytes_35 fl_10_112 (cw_l h5 (by decide)) (cw_s h5 (by decide) rfl) (cw_gi h5 rfl (by decide) (by first | decide +kernel | rfl)) ?_
  refine a_iconst (v := 1) dX10_putBytes_38 (by decide) ?_
  refine a_iadd dX10_putBytes_39 ?_
  refine a_st (st2 := [.int 3, .ref 0]) (by decide +kernel) ?_
  refine a_putI dX10_putBytes_40 (Or.inl ⟨fl_10_112, Or.inl rfl⟩) rfl (cw_l h5 (by decide)) (cw_s h5 (by decide) rfl) rfl rfl ?_
  have h6 : Cw 126 Lj134 (up2 (up2 (up2 (up2 (up2 (up2 fs42 1 0 ((iushr a 24) &&& 255)) 0 1 1) 1 1 ((iushr a 16) &&& 255)) 0 1 2) 1 2 ((iushr a 8) &&& 255)) 0 1 3) gs31 (wI M5 0 1 3) := cw_I h5 (by decide)
  generalize (wI M5 0 1 3) = M6 at h6 ⊢
  refine a_iinc (v := 0) dX10_putBytes_43 rfl (by decide) (Nat.le_of_ble_eq_true rfl) (lv2 := [(2, .int 0), (0, .ref 0), (1, .int a)]) rfl ?_
  refine a_goto 3 dX10_putBytes_46 (by decide) ?_
  refine a_iload_n dX10_putBytes_3 rfl rfl ?_
  refine a_if_lt 49 dX10_putBytes_4 (by decide) (fun c => absurd c (by decide)) (fun _ => ?_)
  refine a_aload_n dX10_putBytes_7 rfl rfl ?_
  refine a_get (v := .int 3) dX10_putBytes_8 fl_10_112 (cw_l h6 (by decide)) (cw_s h6 (by decide) rfl) (cw_gi h6 rfl (by decide) (by first | decide +kernel | rfl)) ?_
  refine a_sipush (v := 600) dX10_putBytes_11 (by decide) ?_
  refine a_icmp_ge 49 dX10_putBytes_14 (by decide) (fun c => absurd c (by decide)) (fun _ => ?_)
  refine a_aload_n dX10_putBytes_17 rfl rfl ?_
  refine a_get (v := .ref 1) dX10_putBytes_18 fl_10_9 (cw_l h6 (by decide)) (cw_s h6 (by decide) rfl) (cw_g h6 rfl (by decide +kernel)) ?_
  refine a_aload_n dX10_putBytes_21 rfl rfl ?_
  refine a_get (v := .int 3) dX10_putBytes_22 fl_10_112 (cw_l h6 (by decide)) (cw_s h6 (by decide) rfl) (cw_gi h6 rfl (by decide) (by first | decide +kernel | rfl)) ?_
  refine a_iload_n dX10_putBytes_25 rfl rfl ?_
  refine a_iload_n dX10_putBytes_26 rfl rfl ?_
  refine a_iushr dX10_putBytes_27 ?_
  refine a_sipush (v := 255) dX10_putBytes_28 (by decide) ?_
  refine a_iand dX10_putBytes_31 ?_
  refine a_iastore dX10_putBytes_32 (cw_l h6 (by decide)) (cw_s h6 (by decide) rfl) (by unfold vp_in; decide +kernel) ?_
  rw [show Int32.toNatClampNeg 3 = 3 from by decide +kernel]
  have h7 : Cw 126 Lj134 (up2 (up2 (up2 (up2 (up2 (up2 (up2 fs42 1 0 ((iushr a 24) &&& 255)) 0 1 1) 1 1 ((iushr a 16) &&& 255)) 0 1 2) 1 2 ((iushr a 8) &&& 255)) 0 1 3) 1 3 ((iushr a 0) &&& 255)) gs31 (wI M6 1 3 ((iushr a 0) &&& 255)) := cw_I h6 (by decide)
  generalize (wI M6 1 3 ((iushr a 0) &&& 255)) = M7 at h7 ⊢
  refine a_aload_n dX10_putBytes_33 rfl rfl ?_
  refine a_dup dX10_putBytes_34 rfl ?_
  refine a_get (v := .int 3) dX10_putBytes_35 fl_10_112 (cw_l h7 (by decide)) (cw_s h7 (by decide) rfl) (cw_gi h7 rfl (by decide) (by first | decide +kernel | rfl)) ?_
  refine a_iconst (v := 1) dX10_putBytes_38 (by decide) ?_
  refine a_iadd dX10_putBytes_39 ?_
  refine a_st (st2 := [.int 4, .ref 0]) (by decide +kernel) ?_
  refine a_putI dX10_putBytes_40 (Or.inl ⟨fl_10_112, Or.inl rfl⟩) rfl (cw_l h7 (by decide)) (cw_s h7 (by decide) rfl) rfl rfl ?_
  have h8 : Cw 126 Lj134 (up2 (up2 (up2 (up2 (up2 (up2 (up2 (up2 fs42 1 0 ((iushr a 24) &&& 255)) 0 1 1) 1 1 ((iushr a 16) &&& 255)) 0 1 2) 1 2 ((iushr a 8) &&& 255)) 0 1 3) 1 3 ((iushr a 0) &&& 255)) 0 1 4) gs31 (wI M7 0 1 4) := cw_I h7 (by decide)
  generalize (wI M7 0 1 4) = M8 at h8 ⊢
  refine a_iinc (v := (-8)) dX10_putBytes_43 rfl (by decide) (Nat.le_of_ble_eq_true rfl) (lv2 := [(2, .int (-8)), (0, .ref 0), (1, .int a)]) rfl ?_
  refine a_goto 3 dX10_putBytes_46 (by decide) ?_
  refine a_iload_n dX10_putBytes_3 rfl rfl ?_
  refine a_if_lt 49 dX10_putBytes_4 (by decide) (fun _ => ?_) (fun c => absurd (by decide) c)
  exact a_vret dX10_putBytes_49 rfl ⟨rfl, h8⟩
set_option maxHeartbeats 4000000 in
set_option maxRecDepth 100000 in
theorem z2_X10_putBytes {X : Nat × (Nat → Int32)} {fr : Nat} {M : Mem} (a : Int32) (b : Int32) (c : Int32) (d : Int32) (e : Int32) (h0 : Cw 126 Lj134 (up2 (up2 (up2 (up2 (up2 (up2 (up2 (up2 fs42 1 0 ((iushr a 24) &&& 255)) 0 1 1) 1 1 ((iushr a 16) &&& 255)) 0 1 2) 1 2 ((iushr a 8) &&& 255)) 0 1 3) 1 3 ((iushr a 0) &&& 255)) 0 1 4) gs31 M) : AM yX10_putBytes cX10_putBytes 3 none true (fr + 7) 0 0 X [.ref 0, .int b] M (fun v M1 => v = none ∧ Cw 126 Lj134 (up2 (up2 (up2 (up2 (up2 (up2 (up2 (up2 (up2 (up2 (up2 (up2 (up2 (up2 (up2 (up2 fs42 1 0 ((iushr a 24) &&& 255)) 0 1 1) 1 1 ((iushr a 16) &&& 255)) 0 1 2) 1 2 ((iushr a 8) &&& 255)) 0 1 3) 1 3 ((iushr a 0) &&& 255)) 0 1 4) 1 4 ((iushr b 24) &&& 255)) 0 1 5) 1 5 ((iushr b 16) &&& 255)) 0 1 6) 1 6 ((iushr b 8) &&& 255)) 0 1 7) 1 7 ((iushr b 0) &&& 255)) 0 1 8) gs31 M1) := by
  refine AM.of false (by decide +kernel) (by intro h; cases h) (Nat.le_of_ble_eq_true rfl) ?_
  show AW X (RX10, cX10_putBytes, 3, none, false, true, fr + 7) 0 0 0 [(0, .ref 0), (1, .int b)] [] M _
  refine a_bipush (v := 24) dX10_putBytes_0 (by decide) ?_
  refine a_istore_n dX10_putBytes_2 rfl (Nat.le_of_ble_eq_true rfl) (lv2 := [(2, .int 24), (0, .ref 0), (1, .int b)]) rfl ?_
  refine a_iload_n dX10_putBytes_3 rfl rfl ?_
  refine a_if_lt 49 dX10_putBytes_4 (by decide) (fun c => absurd c (by decide)) (fun _ => ?_)
  refine a_aload_n dX10_putBytes_7 rfl rfl ?_
  refine a_get (v := .int 4) dX10_putBytes_8 fl_10_112 (cw_l h0 (by decide)) (cw_s h0 (by decide) rfl) (cw_gi h0 rfl (by decide) (by first | decide +kernel | rfl)) ?_
  refine a_sipush (v := 600) dX10_putBytes_11 (by decide) ?_
  refine a_icmp_ge 49 dX10_putBytes_14 (by decide) (fun c => absurd c (by decide)) (fun _ => ?_)
  refine a_aload_n dX10_putBytes_17 rfl rfl ?_
  refine a_get (v := .ref 1) dX10_putBytes_18 fl_10_9 (cw_l h0 (by decide)) (cw_s h0 (by decide) rfl) (cw_g h0 rfl (by decide +kernel)) ?_
  refine a_aload_n dX10_putBytes_21 rfl rfl ?_
  refine a_get (v := .int 4) dX10_putBytes_22 fl_10_112 (cw_l h0 (by decide)) (cw_s h0 (by decide) rfl) (cw_gi h0 rfl (by decide) (by first | decide +kernel | rfl)) ?_
  refine a_iload_n dX10_putBytes_25 rfl rfl ?_
  refine a_iload_n dX10_putBytes_26 rfl rfl ?_
  refine a_iushr dX10_putBytes_27 ?_
  refine a_sipush (v := 255) dX10_putBytes_28 (by decide) ?_
  refine a_iand dX10_putBytes_31 ?_
  refine a_iastore dX10_putBytes_32 (cw_l h0 (by decide)) (cw_s h0 (by decide) rfl) (by unfold vp_in; decide +kernel) ?_
  rw [show Int32.toNatClampNeg 4 = 4 from by decide +kernel]
  have h1 : Cw 126 Lj134 (up2 (up2 (up2 (up2 (up2 (up2 (up2 (up2 (up2 fs42 1 0 ((iushr a 24) &&& 255)) 0 1 1) 1 1 ((iushr a 16) &&& 255)) 0 1 2) 1 2 ((iushr a 8) &&& 255)) 0 1 3) 1 3 ((iushr a 0) &&& 255)) 0 1 4) 1 4 ((iushr b 24) &&& 255)) gs31 (wI M 1 4 ((iushr b 24) &&& 255)) := cw_I h0 (by decide)
  generalize (wI M 1 4 ((iushr b 24) &&& 255)) = M1 at h1 ⊢
  refine a_aload_n dX10_putBytes_33 rfl rfl ?_
  refine a_dup dX10_putBytes_34 rfl ?_
  refine a_get (v := .int 4) dX10_putBytes_35 fl_10_112 (cw_l h1 (by decide)) (cw_s h1 (by decide) rfl) (cw_gi h1 rfl (by decide) (by first | decide +kernel | rfl)) ?_
  refine a_iconst (v := 1) dX10_putBytes_38 (by decide) ?_
  refine a_iadd dX10_putBytes_39 ?_
  refine a_st (st2 := [.int 5, .ref 0]) (by decide +kernel) ?_
  refine a_putI dX10_putBytes_40 (Or.inl ⟨fl_10_112, Or.inl rfl⟩) rfl (cw_l h1 (by decide)) (cw_s h1 (by decide) rfl) rfl rfl ?_
  have h2 : Cw 126 Lj134 (up2 (up2 (up2 (up2 (up2 (up2 (up2 (up2 (up2 (up2 fs42 1 0 ((iushr a 24) &&& 255)) 0 1 1) 1 1 ((iushr a 16) &&& 255)) 0 1 2) 1 2 ((iushr a 8) &&& 255)) 0 1 3) 1 3 ((iushr a 0) &&& 255)) 0 1 4) 1 4 ((iushr b 24) &&& 255)) 0 1 5) gs31 (wI M1 0 1 5) := cw_I h1 (by decide)
  generalize (wI M1 0 1 5) = M2 at h2 ⊢
  refine a_iinc (v := 16) dX10_putBytes_43 rfl (by decide) (Nat.le_of_ble_eq_true rfl) (lv2 := [(2, .int 16), (0, .ref 0), (1, .int b)]) rfl ?_
  refine a_goto 3 dX10_putBytes_46 (by decide) ?_
  refine a_iload_n dX10_putBytes_3 rfl rfl ?_
  refine a_if_lt 49 dX10_putBytes_4 (by decide) (fun c => absurd c (by decide)) (fun _ => ?_)
  refine a_aload_n dX10_putBytes_7 rfl rfl ?_
  refine a_get (v := .int 5) dX10_putBytes_8 fl_10_112 (cw_l h2 (by decide)) (cw_s h2 (by decide) rfl) (cw_gi h2 rfl (by decide) (by first | decide +kernel | rfl)) ?_
  refine a_sipush (v := 600) dX10_putBytes_11 (by decide) ?_
  refine a_icmp_ge 49 dX10_putBytes_14 (by decide) (fun c => absurd c (by decide)) (fun _ => ?_)
  refine a_aload_n dX10_putBytes_17 rfl rfl ?_
  refine a_get (v := .ref 1) dX10_putBytes_18 fl_10_9 (cw_l h2 (by decide)) (cw_s h2 (by decide) rfl) (cw_g h2 rfl (by decide +kernel)) ?_
  refine a_aload_n dX10_putBytes_21 rfl rfl ?_
  refine a_get (v := .int 5) dX10_putBytes_22 fl_10_112 (cw_l h2 (by decide)) (cw_s h2 (by decide) rfl) (cw_gi h2 rfl (by decide) (by first | decide +kernel | rfl)) ?_
  refine a_iload_n dX10_putBytes_25 rfl rfl ?_
  refine a_iload_n dX10_putBytes_26 rfl rfl ?_
  refine a_iushr dX10_putBytes_27 ?_
  refine a_sipush (v := 255) dX10_putBytes_28 (by decide) ?_
  refine a_iand dX10_putBytes_31 ?_
  refine a_iastore dX10_putBytes_32 (cw_l h2 (by decide)) (cw_s h2 (by decide) rfl) (by unfold vp_in; decide +kernel) ?_
  rw [show Int32.toNatClampNeg 5 = 5 from by decide +kernel]
  have h3 : Cw 126 Lj134 (up2 (up2 (up2 (up2 (up2 (up2 (up2 (up2 (up2 (up2 (up2 fs42 1 0 ((iushr a 24) &&& 255)) 0 1 1) 1 1 ((iushr a 16) &&& 255)) 0 1 2) 1 2 ((iushr a 8) &&& 255)) 0 1 3) 1 3 ((iushr a 0) &&& 255)) 0 1 4) 1 4 ((iushr b 24) &&& 255)) 0 1 5) 1 5 ((iushr b 16) &&& 255)) gs31 (wI M2 1 5 ((iushr b 16) &&& 255)) := cw_I h2 (by decide)
  generalize (wI M2 1 5 ((iushr b 16) &&& 255)) = M3 at h3 ⊢
  refine a_aload_n dX10_putBytes_33 rfl rfl ?_
  refine a_dup dX10_putBytes_34 rfl ?_
  refine a_get (v := .int 5) dX10_putBytes_35 fl_10_112 (cw_l h3 (by decide)) (cw_s h3 (by decide) rfl) (cw_gi h3 rfl (by decide) (by first | decide +kernel | rfl)) ?_
  refine a_iconst (v := 1) dX10_putBytes_38 (by decide) ?_
  refine a_iadd dX10_putBytes_39 ?_
  refine a_st (st2 := [.int 6, .ref 0]) (by decide +kernel) ?_
  refine a_putI dX10_putBytes_40 (Or.inl ⟨fl_10_112, Or.inl rfl⟩) rfl (cw_l h3 (by decide)) (cw_s h3 (by decide) rfl) rfl rfl ?_
  have h4 : Cw 126 Lj134 (up2 (up2 (up2 (up2 (up2 (up2 (up2 (up2 (up2 (up2 (up2 (up2 fs42 1 0 ((iushr a 24) &&& 255)) 0 1 1) 1 1 ((iushr a 16) &&& 255)) 0 1 2) 1 2 ((iushr a 8) &&& 255)) 0 1 3) 1 3 ((iushr a 0) &&& 255)) 0 1 4) 1 4 ((iushr b 24) &&& 255)) 0 1 5) 1 5 ((iushr b 16) &&& 255)) 0 1 6) gs31 (wI M3 0 1 6) := cw_I h3 (by decide)
  generalize (wI M3 0 1 6) = M4 at h4 ⊢
  refine a_iinc (v := 8) dX10_putBytes_43 rfl (by decide) (Nat.le_of_ble_eq_true rfl) (lv2 := [(2, .int 8), (0, .ref 0), (1, .int b)]) rfl ?_
  refine a_goto 3 dX10_putBytes_46 (by decide) ?_
  refine a_iload_n dX10_putBytes_3 rfl rfl ?_
  refine a_if_lt 49 dX10_putBytes_4 (by decide) (fun c => absurd c (by decide)) (fun _ => ?_)
  refine a_aload_n dX10_putBytes_7 rfl rfl ?_
  refine a_get (v := .int 6) dX10_putBytes_8 fl_10_112 (cw_l h4 (by decide)) (cw_s h4 (by decide) rfl) (cw_gi h4 rfl (by decide) (by first | decide +kernel | rfl)) ?_
  refine a_sipush (v := 600) dX10_putBytes_11 (by decide) ?_
  refine a_icmp_ge 49 dX10_putBytes_14 (by decide) (fun c => absurd c (by decide)) (fun _ => ?_)
  refine a_aload_n dX10_putBytes_17 rfl rfl ?_
  refine a_get (v := .ref 1) dX10_putBytes_18 fl_10_9 (cw_l h4 (by decide)) (cw_s h4 (by decide) rfl) (cw_g h4 rfl (by decide +kernel)) ?_
  refine a_aload_n dX10_putBytes_21 rfl rfl ?_
  refine a_get (v := .int 6) dX10_putBytes_22 fl_10_112 (cw_l h4 (by decide)) (cw_s h4 (by decide) rfl) (cw_gi h4 rfl (by decide) (by first | decide +kernel | rfl)) ?_
  refine a_iload_n dX10_putBytes_25 rfl rfl ?_
  refine a_iload_n dX10_putBytes_26 rfl rfl ?_
  refine a_iushr dX10_putBytes_27 ?_
  refine a_sipush (v := 255) dX10_putBytes_28 (by decide) ?_
  refine a_iand dX10_putBytes_31 ?_
  refine a_iastore dX10_putBytes_32 (cw_l h4 (by decide)) (cw_s h4 (by decide) rfl) (by unfold vp_in; decide +kernel) ?_
  rw [show Int32.toNatClampNeg 6 = 6 from by decide +kernel]
  have h5 : Cw 126 Lj134 (up2 (up2 (up2 (up2 (up2 (up2 (up2 (up2 (up2 (up2 (up2 (up2 (up2 fs42 1 0 ((iushr a 24) &&& 255)) 0 1 1) 1 1 ((iushr a 16) &&& 255)) 0 1 2) 1 2 ((iushr a 8) &&& 255)) 0 1 3) 1 3 ((iushr a 0) &&& 255)) 0 1 4) 1 4 ((iushr b 24) &&& 255)) 0 1 5) 1 5 ((iushr b 16) &&& 255)) 0 1 6) 1 6 ((iushr b 8) &&& 255)) gs31 (wI M4 1 6 ((iushr b 8) &&& 255)) := cw_I h4 (by decide)
  generalize (wI M4 1 6 ((iushr b 8) &&& 255)) = M5 at h5 ⊢
  refine a_aload_n dX10_putBytes_33 rfl rfl ?_
  refine a_dup dX10_putBytes_34 rfl ?_
  refine a_get (v := .int 6) dX10_putBytes_35 fl_10_112 (cw_l h5 (by decide)) (cw_s h5 (by decide) rfl) (cw_gi h5 rfl (by decide) (by first | decide +kernel | rfl)) ?_
  refine a_iconst (v := 1) dX10_putBytes_38 (by decide) ?_
  refine a_iadd dX10_putBytes_39 ?_
  refine a_st (st2 := [.int 7, .ref 0]) (by decide +kernel) ?_
  refine a_putI dX10_putBytes_40 (Or.inl ⟨fl_10_112, Or.inl rfl⟩) rfl (cw_l h5 (by decide)) (cw_s h5 (by decide) rfl) rfl rfl ?_
  have h6 : Cw 126 Lj134 (up2 (up2 (up2 (up2 (up2 (up2 (up2 (up2 (up2 (up2 (up2 (up2 (up2 (up2 fs42 1 0 ((iushr a 24) &&& 255)) 0 1 1) 1 1 ((iushr a 16) &&& 255)) 0 1 2) 1 2 ((iushr a 8) &&& 255)) 0 1 3) 1 3 ((iushr a 0) &&& 255)) 0 1 4) 1 4 ((iushr b 24) &&& 255)) 0 1 5) 1 5 ((iushr b 16) &&& 255)) 0 1 6) 1 6 ((iushr b 8) &&& 255)) 0 1 7) gs31 (wI M5 0 1 7) := cw_I h5 (by decide)
  generalize (wI M5 0 1 7) = M6 at h6 ⊢
  refine a_iinc (v := 0) dX10_putBytes_43 rfl (by decide) (Nat.le_of_ble_eq_true rfl) (lv2 := [(2, .int 0), (0, .ref 0), (1, .int b)]) rfl ?_
  refine a_goto 3 dX10_putBytes_46 (by decide) ?_
  refine a_iload_n dX10_putBytes_3 rfl rfl ?_
  refine a_if_lt 49 dX10_putBytes_4 (by decide) (fun c => absurd c (by decide)) (fun _ => ?_)
  refine a_aload_n dX10_putBytes_7 rfl rfl ?_
  refine a_get (v := .int 7) dX10_putBytes_8 fl_10_112 (cw_l h6 (by decide)) (cw_s h6 (by decide) rfl) (cw_gi h6 rfl (by decide) (by first | decide +kernel | rfl)) ?_
  refine a_sipush (v := 600) dX10_putBytes_11 (by decide) ?_
  refine a_icmp_ge 49 dX10_putBytes_14 (by decide) (fun c => absurd c (by decide)) (fun _ => ?_)
  refine a_aload_n dX10_putBytes_17 rfl rfl ?_
  refine a_get (v := .ref 1) dX10_putBytes_18 fl_10_9 (cw_l h6 (by decide)) (cw_s h6 (by decide) rfl) (cw_g h6 rfl (by decide +kernel)) ?_
  refine a_aload_n dX10_putBytes_21 rfl rfl ?_
  refine a_get (v := .int 7) dX10_putBytes_22 fl_10_112 (cw_l h6 (by decide)) (cw_s h6 (by decide) rfl) (cw_gi h6 rfl (by decide) (by first | decide +kernel | rfl)) ?_
  refine a_iload_n dX10_putBytes_25 rfl rfl ?_
  refine a_iload_n dX10_putBytes_26 rfl rfl ?_
  refine a_iushr dX10_putBytes_27 ?_
  refine a_sipush (v := 255) dX10_putBytes_28 (by decide) ?_
  refine a_iand dX10_putBytes_31 ?_
  refine a_iastore dX10_putBytes_32 (cw_l h6 (by decide)) (cw_s h6 (by decide) rfl) (by unfold vp_in; decide +kernel) ?_
  rw [show Int32.toNatClampNeg 7 = 7 from by decide +kernel]
  have h7 : Cw 126 Lj134 (up2 (up2 (up2 (up2 (up2 (up2 (up2 (up2 (up2 (up2 (up2 (up2 (up2 (up2 (up2 fs42 1 0 ((iushr a 24) &&& 255)) 0 1 1) 1 1 ((iushr a 16) &&& 255)) 0 1 2) 1 2 ((iushr a 8) &&& 255)) 0 1 3) 1 3 ((iushr a 0) &&& 255)) 0 1 4) 1 4 ((iushr b 24) &&& 255)) 0 1 5) 1 5 ((iushr b 16) &&& 255)) 0 1 6) 1 6 ((iushr b 8) &&& 255)) 0 1 7) 1 7 ((iushr b 0) &&& 255)) gs31 (wI M6 1 7 ((iushr b 0) &&& 255)) := cw_I h6 (by decide)
  generalize (wI M6 1 7 ((iushr b 0) &&& 255)) = M7 at h7 ⊢
  refine a_aload_n dX10_putBytes_33 rfl rfl ?_
  refine a_dup dX10_putBytes_34 rfl ?_
  refine a_get (v := .int 7) dX10_putBytes_35 fl_10_112 (cw_l h7 (by decide)) (cw_s h7 (by decide) rfl) (cw_gi h7 rfl (by decide) (by first | decide +kernel | rfl)) ?_
  refine a_iconst (v := 1) dX10_putBytes_38 (by decide) ?_
  refine a_iadd dX10_putBytes_39 ?_
  refine a_st (st2 := [.int 8, .ref 0]) (by decide +kernel) ?_
  refine a_putI dX10_putBytes_40 (Or.inl ⟨fl_10_112, Or.inl rfl⟩) rfl (cw_l h7 (by decide)) (cw_s h7 (by decide) rfl) rfl rfl ?_
  have h8 : Cw 126 Lj134 (up2 (up2 (up2 (up2 (up2 (up2 (up2 (up2 (up2 (up2 (up2 (up2 (up2 (up2 (up2 (up2 fs42 1 0 ((iushr a 24) &&& 255)) 0 1 1) 1 1 ((iushr a 16) &&& 255)) 0 1 2) 1 2 ((iushr a 8) &&& 255)) 0 1 3) 1 3 ((iushr a 0) &&& 255)) 0 1 4) 1 4 ((iushr b 24) &&& 255)) 0 1 5) 1 5 ((iushr b 16) &&& 255)) 0 1 6) 1 6 ((iushr b 8) &&& 255)) 0 1 7) 1 7 ((iushr b 0) &&& 255)) 0 1 8) gs31 (wI M7 0 1 8) := cw_I h7 (by decide)
  generalize (wI M7 0 1 8) = M8 at h8 ⊢
  refine a_iinc (v := (-8)) dX10_putBytes_43 rfl (by decide) (Nat.le_of_ble_eq_true rfl) (lv2 := [(2, .int (-8)), (0, .ref 0), (1, .int b)]) rfl ?_
  refine a_goto 3 dX10_putBytes_46 (by decide) ?_
  refine a_iload_n dX10_putBytes_3 rfl rfl ?_
  refine a_if_lt 49 dX10_putBytes_4 (by decide) (fun _ => ?_) (fun c => absurd (by decide) c)
  exact a_vret dX10_putBytes_49 rfl ⟨rfl, h8⟩
set_option maxHeartbeats 4000000 in
set_option maxRecDepth 100000 in
theorem z3_X10_putBytes {X : Nat × (Nat → Int32)} {fr : Nat} {M : Mem} (a : Int32) (b : Int32) (c : Int32) (d : Int32) (e : Int32) (h0 : Cw 126 Lj134 (up2 (up2 (up2 (up2 (up2 (up2 (up2 (up2 (up2 (up2 (up2 (up2 (up2 (up2 (up2 (up2 fs42 1 0 ((iushr a 24) &&& 255)) 0 1 1) 1 1 ((iushr a 16) &&& 255)) 0 1 2) 1 2 ((iushr a 8) &&& 255)) 0 1 3) 1 3 ((iushr a 0) &&& 255)) 0 1 4) 1 4 ((iushr b 24) &&& 255)) 0 1 5) 1 5 ((iushr b 16) &&& 255)) 0 1 6) 1 6 ((iushr b 8) &&& 255)) 0 1 7) 1 7 ((iushr b 0) &&& 255)) 0 1 8) gs31 M) : AM yX10_putBytes cX10_putBytes 3 none true (fr + 7) 0 0 X [.ref 0, .int c] M (fun v M1 => v = none ∧ Cw 126 Lj134 (up2 (up2 (up2 (up2 (up2 (up2 (up2 (up2 (up2 (up2 (up2 (up2 (up2 (up2 (up2 (up2 (up2 (up2 (up2 (up2 (up2 (up2 (up2 (up2 fs42 1 0 ((iushr a 24) &&& 255)) 0 1 1) 1 1 ((iushr a 16) &&& 255)) 0 1 2) 1 2 ((iushr a 8) &&& 255)) 0 1 3) 1 3 ((iushr a 0) &&& 255)) 0 1 4) 1 4 ((iushr b 24) &&& 255)) 0 1 5) 1 5 ((iushr b 16) &&& 255)) 0 1 6) 1 6 ((iushr b 8) &&& 255)) 0 1 7) 1 7 ((iushr b 0) &&& 255)) 0 1 8) 1 8 ((iushr c 24) &&& 255)) 0 1 9) 1 9 ((iushr c 16) &&& 255)) 0 1 10) 1 10 ((iushr c 8) &&& 255)) 0 1 11) 1 11 ((iushr c 0) &&& 255)) 0 1 12) gs31 M1) := by
  refine AM.of false (by decide +kernel) (by intro h; cases h) (Nat.le_of_ble_eq_true rfl) ?_
  show AW X (RX10, cX10_putBytes, 3, none, false, true, fr + 7) 0 0 0 [(0, .ref 0), (1, .int c)] [] M _
  refine a_bipush (v := 24) dX10_putBytes_0 (by decide) ?_
  refine a_istore_n dX10_putBytes_2 rfl (Nat.le_of_ble_eq_true rfl) (lv2 := [(2, .int 24), (0, .ref 0), (1, .int c)]) rfl ?_
  refine a_iload_n dX10_putBytes_3 rfl rfl ?_
  refine a_if_lt 49 dX10_putBytes_4 (by decide) (fun c => absurd c (by decide)) (fun _ => ?_)
  refine a_aload_n dX10_putBytes_7 rfl rfl ?_
  refine a_get (v := .int 8) dX10_putBytes_8 fl_10_112 (cw_l h0 (by decide)) (cw_s h0 (by decide) rfl) (cw_gi h0 rfl (by decide) (by first | decide +kernel | rfl)) ?_
  refine a_sipush (v := 600) dX10_putBytes_11 (by decide) ?_
  refine a_icmp_ge 49 dX10_putBytes_14 (by decide) (fun c => absurd c (by decide)) (fun _ => ?_)
  refine a_aload_n dX10_putBytes_17 rfl rfl ?_
  refine a_get (v := .ref 1) dX10_putBytes_18 fl_10_9 (cw_l h0 (by decide)) (cw_s h0 (by decide) rfl) (cw_g h0 rfl (by decide +kernel)) ?_
  refine a_aload_n dX10_putBytes_21 rfl rfl ?_
  refine a_get (v := .int 8) dX10_putBytes_22 fl_10_112 (cw_l h0 (by decide)) (cw_s h0 (by decide) rfl) (cw_gi h0 rfl (by decide) (by first | decide +kernel | rfl)) ?_
  refine a_iload_n dX10_putBytes_25 rfl rfl ?_
  refine a_iload_n dX10_putBytes_26 rfl rfl ?_
  refine a_iushr dX10_putBytes_27 ?_
  refine a_sipush (v := 255) dX10_putBytes_28 (by decide) ?_
  refine a_iand dX10_putBytes_31 ?_
  refine a_iastore dX10_putBytes_32 (cw_l h0 (by decide)) (cw_s h0 (by decide) rfl) (by unfold vp_in; decide +kernel) ?_
  rw [show Int32.toNatClampNeg 8 = 8 from by decide +kernel]
  have h1 : Cw 126 Lj134 (up2 (up2 (up2 (up2 (up2 (up2 (up2 (up2 (up2 (up2 (up2 (up2 (up2 (up2 (up2 (up2 (up2 fs42 1 0 ((iushr a 24) &&& 255)) 0 1 1) 1 1 ((iushr a 16) &&& 255)) 0 1 2) 1 2 ((iushr a 8) &&& 255)) 0 1 3) 1 3 ((iushr a 0) &&& 255)) 0 1 4) 1 4 ((iushr b 24) &&& 255)) 0 1 5) 1 5 ((iushr b 16) &&& 255)) 0 1 6) 1 6 ((iushr b 8) &&& 255)) 0 1 7) 1 7 ((iushr b 0) &&& 255)) 0 1 8) 1 8 ((iushr c 24) &&& 255)) gs31 (wI M 1 8 ((iushr c 24) &&& 255)) := cw_I h0 (by decide)
  generalize (wI M 1 8 ((iushr c 24) &&& 255)) = M1 at h1 ⊢
  refine a_aload_n dX10_putBytes_33 rfl rfl ?_
  refine a_dup dX10_putBytes_34 rfl ?_
  refine a_get (v := .int 8) dX10_putBytes_35 fl_10_112 (cw_l h1 (by decide)) (cw_s h1 (by decide) rfl) (cw_gi h1 rfl (by decide) (by first | decide +kernel | rfl)) ?_
  refine a_iconst (v := 1) dX10_putBytes_38 (by decide) ?_
  refine a_iadd dX10_putBytes_39 ?_
  refine a_st (st2 := [.int 9, .ref 0]) (by decide +kernel) ?_
  refine a_putI dX10_putBytes_40 (Or.inl ⟨fl_10_112, Or.inl rfl⟩) rfl (cw_l h1 (by decide)) (cw_s h1 (by decide) rfl) rfl rfl ?_
  have h2 : Cw 126 Lj134 (up2 (up2 (up2 (up2 (up2 (up2 (up2 (up2 (up2 (up2 (up2 (up2 (up2 (up2 (up2 (up2 (up2 (up2 fs42 1 0 ((iushr a 24) &&& 255)) 0 1 1) 1 1 ((iushr a 16) &&& 255)) 0 1 2) 1 2 ((iushr a 8) &&& 255)) 0 1 3) 1 3 ((iushr a 0) &&& 255)) 0 1 4) 1 4 ((iushr b 24) &&& 255)) 0 1 5) 1 5 ((iushr b 16) &&& 255)) 0 1 6) 1 6 ((iushr b 8) &&& 255)) 0 1 7) 1 7 ((iushr b 0) &&& 255)) 0 1 8) 1 8 ((iushr c 24) &&& 255)) 0 1 9) gs31 (wI M1 0 1 9) := cw_I h1 (by decide)
  generalize (wI M1 0 1 9) = M2 at h2 ⊢
  refine a_iinc (v := 16) dX10_putBytes_43 rfl (by decide) (Nat.le_of_ble_eq_true rfl) (lv2 := [(2, .int 16), (0, .ref 0), (1, .int c)]) rfl ?_
  refine a_goto 3 dX10_putBytes_46 (by decide) ?_
  refine a_iload_n dX10_putBytes_3 rfl rfl ?_
  refine a_if_lt 49 dX10_putBytes_4 (by decide) (fun c => absurd c (by decide)) (fun _ => ?_)
  refine a_aload_n dX10_putBytes_7 rfl rfl ?_
  refine a_get (v := .int 9) dX10_putBytes_8 fl_10_112 (cw_l h2 (by decide)) (cw_s h2 (by decide) rfl) (cw_gi h2 rfl (by decide) (by first | decide +kernel | rfl)) ?_
  refine a_sipush (v := 600) dX10_putBytes_11 (by decide) ?_
  refine a_icmp_ge 49 dX10_putBytes_14 (by decide) (fun c => absurd c (by decide)) (fun _ => ?_)
  refine a_aload_n dX10_putBytes_17 rfl rfl ?_
  refine a_get (v := .ref 1) dX10_putBytes_18 fl_10_9 (cw_l h2 (by decide)) (cw_s h2 (by decide) rfl) (cw_g h2 rfl (by decide +kernel)) ?_
  refine a_aload_n dX10_putBytes_21 rfl rfl ?_
  refine a_get (v := .int 9) dX10_putBytes_22 fl_10_112 (cw_l h2 (by decide)) (cw_s h2 (by decide) rfl) (cw_gi h2 rfl (by decide) (by first | decide +kernel | rfl)) ?_
  refine a_iload_n dX10_putBytes_25 rfl rfl ?_
  refine a_iload_n dX10_putBytes_26 rfl rfl ?_
  refine a_iushr dX10_putBytes_27 ?_
  refine a_sipush (v := 255) dX10_putBytes_28 (by decide) ?_
  refine a_iand dX10_putBytes_31 ?_
  refine a_iastore dX10_putBytes_32 (cw_l h2 (by decide)) (cw_s h2 (by decide) rfl) (by unfold vp_in; decide +kernel) ?_
  rw [show Int32.toNatClampNeg 9 = 9 from by decide +kernel]
  have h3 : Cw 126 Lj134 (up2 (up2 (up2 (up2 (up2 (up2 (up2 (up2 (up2 (up2 (up2 (up2 (up2 (up2 (up2 (up2 (up2 (up2 (up2 fs42 1 0 ((iushr a 24) &&& 255)) 0 1 1) 1 1 ((iushr a 16) &&& 255)) 0 1 2) 1 2 ((iushr a 8) &&& 255)) 0 1 3) 1 3 ((iushr a 0) &&& 255)) 0 1 4) 1 4 ((iushr b 24) &&& 255)) 0 1 5) 1 5 ((iushr b 16) &&& 255)) 0 1 6) 1 6 ((iushr b 8) &&& 255)) 0 1 7) 1 7 ((iushr b 0) &&& 255)) 0 1 8) 1 8 ((iushr c 24) &&& 255)) 0 1 9) 1 9 ((iushr c 16) &&& 255)) gs31 (wI M2 1 9 ((iushr c 16) &&& 255)) := cw_I h2 (by decide)
  generalize (wI M2 1 9 ((iushr c 16) &&& 255)) = M3 at h3 ⊢
  refine a_aload_n dX10_putBytes_33 rfl rfl ?_
  refine a_dup dX10_putBytes_34 rfl ?_
  refine a_get (v := .int 9) dX10_putBytes_35 fl_10_112 (cw_l h3 (by decide)) (cw_s h3 (by decide) rfl) (cw_gi h3 rfl (by decide) (by first | decide +kernel | rfl)) ?_
  refine a_iconst (v := 1) dX10_putBytes_38 (by decide) ?_
  refine a_iadd dX10_putBytes_39 ?_
  refine a_st (st2 := [.int 10, .ref 0]) (by decide +kernel) ?_
  refine a_putI dX10_putBytes_40 (Or.inl ⟨fl_10_112, Or.inl rfl⟩) rfl (cw_l h3 (by decide)) (cw_s h3 (by decide) rfl) rfl rfl ?_
  have h4 : Cw 126 Lj134 (up2 (up2 (up2 (up2 (up2 (up2 (up2 (up2 (up2 (up2 (up2 (up2 (up2 (up2 (up2 (up2 (up2 (up2 (up2 (up2 fs42 1 0 ((iushr a 24) &&& 255)) 0 1 1) 1 1 ((iushr a 16) &&& 255)) 0 1 2) 1 2 ((iushr a 8) &&& 255)) 0 1 3) 1 3 ((iushr a 0) &&& 255)) 0 1 4) 1 4 ((iushr b 24) &&& 255)) 0 1 5) 1 5 ((iushr b 16) &&& 255)) 0 1 6) 1 6 ((iushr b 8) &&& 255)) 0 1 7) 1 7 ((iushr b 0) &&& 255)) 0 1 8) 1 8 ((iushr c 24) &&& 255)) 0 1 9) 1 9 ((iushr c 16) &&& 255)) 0 1 10) gs31 (wI M3 0 1 10) := cw_I h3 (by decide)
  generalize (wI M3 0 1 10) = M4 at h4 ⊢
  refine a_iinc (v := 8) dX10_putBytes_43 rfl (by decide) (Nat.le_of_ble_eq_true rfl) (lv2 := [(2, .int 8), (0, .ref 0), (1, .int c)]) rfl ?_
  refine a_goto 3 dX10_putBytes_46 (by decide) ?_
  refine a_iload_n dX10_putBytes_3 rfl rfl ?_
  refine a_if_lt 49 dX10_putBytes_4 (by decide) (fun c => absurd c (by decide)) (fun _ => ?_)
  refine a_aload_n dX10_putBytes_7 rfl rfl ?_
  refine a_get (v := .int 10) dX10_putBytes_8 fl_10_112 (cw_l h4 (by decide)) (cw_s h4 (by decide) rfl) (cw_gi h4 rfl (by decide) (by first | decide +kernel | rfl)) ?_
  refine a_sipush (v := 600) dX10_putBytes_11 (by decide) ?_
  refine a_icmp_ge 49 dX10_putBytes_14 (by decide) (fun c => absurd c (by decide)) (fun _ => ?_)
  refine a_aload_n dX10_putBytes_17 rfl rfl ?_
  refine a_get (v := .ref 1) dX10_putBytes_18 fl_10_9 (cw_l h4 (by decide)) (cw_s h4 (by decide) rfl) (cw_g h4 rfl (by decide +kernel)) ?_
  refine a_aload_n dX10_putBytes_21 rfl rfl ?_
  refine a_get (v := .int 10) dX10_putBytes_22 fl_10_112 (cw_l h4 (by decide)) (cw_s h4 (by decide) rfl) (cw_gi h4 rfl (by decide) (by first | decide +kernel | rfl)) ?_
  refine a_iload_n dX10_putBytes_25 rfl rfl ?_
  refine a_iload_n dX10_putBytes_26 rfl rfl ?_
  refine a_iushr dX10_putBytes_27 ?_
  refine a_sipush (v := 255) dX10_putBytes_28 (by decide) ?_
  refine a_iand dX10_putBytes_31 ?_
  refine a_iastore dX10_putBytes_32 (cw_l h4 (by decide)) (cw_s h4 (by decide) rfl) (by unfold vp_in; decide +kernel) ?_
  rw [show Int32.toNatClampNeg 10 = 10 from by decide +kernel]
  have h5 : Cw 126 Lj134 (up2 (up2 (up2 (up2 (up2 (up2 (up2 (up2 (up2 (up2 (up2 (up2 (up2 (up2 (up2 (up2 (up2 (up2 (up2 (up2 (up2 fs42 1 0 ((iushr a 24) &&& 255)) 0 1 1) 1 1 ((iushr a 16) &&& 255)) 0 1 2) 1 2 ((iushr a 8) &&& 255)) 0 1 3) 1 3 ((iushr a 0) &&& 255)) 0 1 4) 1 4 ((iushr b 24) &&& 255)) 0 1 5) 1 5 ((iushr b 16) &&& 255)) 0 1 6) 1 6 ((iushr b 8) &&& 255)) 0 1 7) 1 7 ((iushr b 0) &&& 255)) 0 1 8) 1 8 ((iushr c 24) &&& 255)) 0 1 9) 1 9 ((iushr c 16) &&& 255)) 0 1 10) 1 10 ((iushr c 8) &&& 255)) gs31 (wI M4 1 10 ((iushr c 8) &&& 255)) := cw_I h4 (by decide)
  generalize (wI M4 1 10 ((iushr c 8) &&& 255)) = M5 at h5 ⊢
  refine a_aload_n dX10_putBytes_33 rfl rfl ?_
  refine a_dup dX10_putBytes_34 rfl ?_
  refine a_get (v := .int 10) dX10_putBytes_35 fl_10_112 (cw_l h5 (by decide)) (cw_s h5 (by decide) rfl) (cw_gi h5 rfl (by decide) (by first | decide +kernel | rfl)) ?_
  refine a_iconst (v := 1) dX10_putBytes_38 (by decide) ?_
  refine a_iadd dX10_putBytes_39 ?_
  refine a_st (st2 := [.int 11, .ref 0]) (by decide +kernel) ?_
  refine a_putI dX10_putBytes_40 (Or.inl ⟨fl_10_112, Or.inl rfl⟩) rfl (cw_l h5 (by decide)) (cw_s h5 (by decide) rfl) rfl rfl ?_
  have h6 : Cw 126 Lj134 (up2 (up2 (up2 (up2 (up2 (up2 (up2 (up2 (up2 (up2 (up2 (up2 (up2 (up2 (up2 (up2 (up2 (up2 (up2 (up2 (up2 (up2 fs42 1 0 ((iushr a 24) &&& 255)) 0 1 1) 1 1 ((iushr a 16) &&& 255)) 0 1 2) 1 2 ((iushr a 8) &&& 255)) 0 1 3) 1 3 ((iushr a 0) &&& 255)) 0 1 4) 1 4 ((iushr b 24) &&& 255)) 0 1 5) 1 5 ((iushr b 16) &&& 255)) 0 1 6) 1 6 ((iushr b 8) &&& 255)) 0 1 7) 1 7 ((iushr b 0) &&& 255)) 0 1 8) 1 8 ((iushr c 24) &&& 255)) 0 1 9) 1 9 ((iushr c 16) &&& 255)) 0 1 10) 1 10 ((iushr c 8) &&& 255)) 0 1 11) gs31 (wI M5 0 1 11) := cw_I h5 (by decide)
  generalize (wI M5 0 1 11) = M6 at h6 ⊢
  refine a_iinc (v := 0) dX10_putBytes_43 rfl (by decide) (Nat.le_of_ble_eq_true rfl) (lv2 := [(2, .int 0), (0, .ref 0), (1, .int c)]) rfl ?_
  refine a_goto 3 dX10_putBytes_46 (by decide) ?_
  refine a_iload_n dX10_putBytes_3 rfl rfl ?_
  refine a_if_lt 49 dX10_putBytes_4 (by decide) (fun c => absurd c (by decide)) (fun _ => ?_)
  refine a_aload_n dX10_putBytes_7 rfl rfl ?_
  refine a_get (v := .int 11) dX10_putBytes_8 fl_10_112 (cw_l h6 (by decide)) (cw_s h6 (by decide) rfl) (cw_gi h6 rfl (by decide) (by first | decide +kernel | rfl)) ?_
  refine a_sipush (v := 600) dX10_putBytes_11 (by decide) ?_
  refine a_icmp_ge 49 dX10_putBytes_14 (by decide) (fun c => absurd c (by decide)) (fun _ => ?_)
  refine a_aload_n dX10_putBytes_17 rfl rfl ?_
  refine a_get (v := .ref 1) dX10_putBytes_18 fl_10_9 (cw_l h6 (by decide)) (cw_s h6 (by decide) rfl) (cw_g h6 rfl (by decide +kernel)) ?_
  refine a_aload_n dX10_putBytes_21 rfl rfl ?_
  refine a_get (v := .int 11) dX10_putBytes_22 fl_10_112 (cw_l h6 (by decide)) (cw_s h6 (by decide) rfl) (cw_gi h6 rfl (by decide) (by first | decide +kernel | rfl)) ?_
  refine a_iload_n dX10_putBytes_25 rfl rfl ?_
  refine a_iload_n dX10_putBytes_26 rfl rfl ?_
  refine a_iushr dX10_putBytes_27 ?_
  refine a_sipush (v := 255) dX10_putBytes_28 (by decide) ?_
  refine a_iand dX10_putBytes_31 ?_
  refine a_iastore dX10_putBytes_32 (cw_l h6 (by decide)) (cw_s h6 (by decide) rfl) (by unfold vp_in; decide +kernel) ?_
  rw [show Int32.toNatClampNeg 11 = 11 from by decide +kernel]
  have h7 : Cw 126 Lj134 (up2 (up2 (up2 (up2 (up2 (up2 (up2 (up2 (up2 (up2 (up2 (up2 (up2 (up2 (up2 (up2 (up2 (up2 (up2 (up2 (up2 (up2 (up2 fs42 1 0 ((iushr a 24) &&& 255)) 0 1 1) 1 1 ((iushr a 16) &&& 255)) 0 1 2) 1 2 ((iushr a 8) &&& 255)) 0 1 3) 1 3 ((iushr a 0) &&& 255)) 0 1 4) 1 4 ((iushr b 24) &&& 255)) 0 1 5) 1 5 ((iushr b 16) &&& 255)) 0 1 6) 1 6 ((iushr b 8) &&& 255)) 0 1 7) 1 7 ((iushr b 0) &&& 255)) 0 1 8) 1 8 ((iushr c 24) &&& 255)) 0 1 9) 1 9 ((iushr c 16) &&& 255)) 0 1 10) 1 10 ((iushr c 8) &&& 255)) 0 1 11) 1 11 ((iushr c 0) &&& 255)) gs31 (wI M6 1 11 ((iushr c 0) &&& 255)) := cw_I h6 (by decide)
  generalize (wI M6 1 11 ((iushr c 0) &&& 255)) = M7 at h7 ⊢
  refine a_aload_n dX10_putBytes_33 rfl rfl ?_
  refine a_dup dX10_putBytes_34 rfl ?_
  refine a_get (v := .int 11) dX10_putBytes_35 fl_10_112 (cw_l h7 (by decide)) (cw_s h7 (by decide) rfl) (cw_gi h7 rfl (by decide) (by first | decide +kernel | rfl)) ?_
  refine a_iconst (v := 1) dX10_putBytes_38 (by decide) ?_
  refine a_iadd dX10_putBytes_39 ?_
  refine a_st (st2 := [.int 12, .ref 0]) (by decide +kernel) ?_
  refine a_putI dX10_putBytes_40 (Or.inl ⟨fl_10_112, Or.inl rfl⟩) rfl (cw_l h7 (by decide)) (cw_s h7 (by decide) rfl) rfl rfl ?_
  have h8 : Cw 126 Lj134 (up2 (up2 (up2 (up2 (up2 (up2 (up2 (up2 (up2 (up2 (up2 (up2 (up2 (up2 (up2 (up2 (up2 (up2 (up2 (up2 (up2 (up2 (up2 (up2 fs42 1 0 ((iushr a 24) &&& 255)) 0 1 1) 1 1 ((iushr a 16) &&& 255)) 0 1 2) 1 2 ((iushr a 8) &&& 255)) 0 1 3) 1 3 ((iushr a 0) &&& 255)) 0 1 4) 1 4 ((iushr b 24) &&& 255)) 0 1 5) 1 5 ((iushr b 16) &&& 255)) 0 1 6) 1 6 ((iushr b 8) &&& 255)) 0 1 7) 1 7 ((iushr b 0) &&& 255)) 0 1 8) 1 8 ((iushr c 24) &&& 255)) 0 1 9) 1 9 ((iushr c 16) &&& 255)) 0 1 10) 1 10 ((iushr c 8) &&& 255)) 0 1 11) 1 11 ((iushr c 0) &&& 255)) 0 1 12) gs31 (wI M7 0 1 12) := cw_I h7 (by decide)
  generalize (wI M7 0 1 12) = M8 at h8 ⊢
  refine a_iinc (v := (-8)) dX10_putBytes_43 rfl (by decide) (Nat.le_of_ble_eq_true rfl) (lv2 := [(2, .int (-8)), (0, .ref 0), (1, .int c)]) rfl ?_
  refine a_goto 3 dX10_putBytes_46 (by decide) ?_
  refine a_iload_n dX10_putBytes_3 rfl rfl ?_
  refine a_if_lt 49 dX10_putBytes_4 (by decide) (fun _ => ?_) (fun c => absurd (by decide) c)
  exact a_vret dX10_putBytes_49 rfl ⟨rfl, h8⟩
set_option maxHeartbeats 4000000 in
set_option maxRecDepth 100000 in
theorem z4_X10_putBytes {X : Nat × (Nat → Int32)} {fr : Nat} {M : Mem} (a : Int32) (b : Int32) (c : Int32) (d : Int32) (e : Int32) (h0 : Cw 126 Lj134 (up2 (up2 (up2 (up2 (up2 (up2 (up2 (up2 (up2 (up2 (up2 (up2 (up2 (up2 (up2 (up2 (up2 (up2 (up2 (up2 (up2 (up2 (up2 (up2 fs42 1 0 ((iushr a 24) &&& 255)) 0 1 1) 1 1 ((iushr a 16) &&& 255)) 0 1 2) 1 2 ((iushr a 8) &&& 255)) 0 1 3) 1 3 ((iushr a 0) &&& 255)) 0 1 4) 1 4 ((iushr b 24) &&& 255)) 0 1 5) 1 5 ((iushr b 16) &&& 255)) 0 1 6) 1 6 ((iushr b 8) &&& 255)) 0 1 7) 1 7 ((iushr b 0) &&& 255)) 0 1 8) 1 8 ((iushr c 24) &&& 255)) 0 1 9) 1 9 ((iushr c 16) &&& 255)) 0 1 10) 1 10 ((iushr c 8) &&& 255)) 0 1 11) 1 11 ((iushr c 0) &&& 255)) 0 1 12) gs31 M) : AM yX10_putBytes cX10_putBytes 3 none true (fr + 7) 0 0 X [.ref 0, .int d] M (fun v M1 => v = none ∧ Cw 126 Lj134 (up2 (up2 (up2 (up2 (up2 (up2 (up2 (up2 (up2 (up2 (up2 (up2 (up2 (up2 (up2 (up2 (up2 (up2 (up2 (up2 (up2 (up2 (up2 (up2 (up2 (up2 (up2 (up2 (up2 (up2 (up2 (up2 fs42 1 0 ((iushr a 24) &&& 255)) 0 1 1) 1 1 ((iushr a 16) &&& 255)) 0 1 2) 1 2 ((iushr a 8) &&& 255)) 0 1 3) 1 3 ((iushr a 0) &&& 255)) 0 1 4) 1 4 ((iushr b 24) &&& 255)) 0 1 5) 1 5 ((iushr b 16) &&& 255)) 0 1 6) 1 6 ((iushr b 8) &&& 255)) 0 1 7) 1 7 ((iushr b 0) &&& 255)) 0 1 8) 1 8 ((iushr c 24) &&& 255)) 0 1 9) 1 9 ((iushr c 16) &&& 255)) 0 1 10) 1 10 ((iushr c 8) &&& 255)) 0 1 11) 1 11 ((iushr c 0) &&& 255)) 0 1 12) 1 12 ((iushr d 24) &&& 255)) 0 1 13) 1 13 ((iushr d 16) &&& 255)) 0 1 14) 1 14 ((iushr d 8) &&& 255)) 0 1 15) 1 15 ((iushr d 0) &&& 255)) 0 1 16) gs31 M1) := by
  refine AM.of false (by decide +kernel) (by intro h; cases h) (Nat.le_of_ble_eq_true rfl) ?_
  show AW X (RX10, cX10_putBytes, 3, none, false, true, fr + 7) 0 0 0 [(0, .ref 0), (1, .int d)] [] M _
  refine a_bipush (v := 24) dX10_putBytes_0 (by decide) ?_
  refine a_istore_n dX10_putBytes_2 rfl (Nat.le_of_ble_eq_true rfl) (lv2 := [(2, .int 24), (0, .ref 0), (1, .int d)]) rfl ?_
  refine a_iload_n dX10_putBytes_3 rfl rfl ?_
  refine a_if_lt 49 dX10_putBytes_4 (by decide) (fun c => absurd c (by decide)) (fun _ => ?_)
  refine a_aload_n dX10_putBytes_7 rfl rfl ?_
  refine a_get (v := .int 12) dX10_putBytes_8 fl_10_112 (cw_l h0 (by decide)) (cw_s h0 (by decide) rfl) (cw_gi h0 rfl (by decide) (by first | decide +kernel | rfl)) ?_
  refine a_sipush (v := 600) dX10_putBytes_11 (by decide) ?_
  refine a_icmp_ge 49 dX10_putBytes_14 (by decide) (fun c => absurd c (by decide)) (fun _ => ?_)
  refine a_aload_n dX10_putBytes_17 rfl rfl ?_
  refine a_get (v := .ref 1) dX10_putBytes_18 fl_10_9 (cw_l h0 (by decide)) (cw_s h0 (by decide) rfl) (cw_g h0 rfl (by decide +kernel)) ?_
  refine a_aload_n dX10_putBytes_21 rfl rfl ?_
  refine a_get (v := .int 12) dX10_putBytes_22 fl_10_112 (cw_l h0 (by decide)) (cw_s h0 (by decide) rfl) (cw_gi h0 rfl (by decide) (by first | decide +kernel | rfl)) ?_
  refine a_iload_n dX10_putBytes_25 rfl rfl ?_
  refine a_iload_n dX10_putBytes_26 rfl rfl ?_
  refine a_iushr dX10_putBytes_27 ?_
  refine a_sipush (v := 255) dX10_putBytes_28 (by decide) ?_
  refine a_iand dX10_putBytes_31 ?_
  refine a_iastore dX10_putBytes_32 (cw_l h0 (by decide)) (cw_s h0 (by decide) rfl) (by unfold vp_in; decide +kernel) ?_
  rw [show Int32.toNatClampNeg 12 = 12 from by decide +kernel]
  have h1 : Cw 126 Lj134 (up2 (up2 (up2 (up2 (up2 (up2 (up2 (up2 (up2 (up2 (up2 (up2 (up2 (up2 (up2 (up2 (up2 (up2 (up2 (up2 (up2 (up2 (up2 (up2 (up2 fs42 1 0 ((iushr a 24) &&& 255)) 0 1 1) 1 1 ((iushr a 16) &&& 255)) 0 1 2) 1 2 ((iushr a 8) &&& 255)) 0 1 3) 1 3 ((iushr a 0) &&& 255)) 0 1 4) 1 4 ((iushr b 24) &&& 255)) 0 1 5) 1 5 ((iushr b 16) &&& 255)) 0 1 6) 1 6 ((iushr b 8) &&& 255)) 0 1 7) 1 7 ((iushr b 0) &&& 255)) 0 1 8) 1 8 ((iushr c 24) &&& 255)) 0 1 9) 1 9 ((iushr c 16) &&& 255)) 0 1 10) 1 10 ((iushr c 8) &&& 255)) 0 1 11) 1 11 ((iushr c 0) &&& 255)) 0 1 12) 1 12 ((iushr d 24) &&& 255)) gs31 (wI M 1 12 ((iushr d 24) &&& 255)) := cw_I h0 (by decide)
  generalize (wI M 1 12 ((iushr d 24) &&& 255)) = M1 at h1 ⊢
  refine a_aload_n dX10_putBytes_33 rfl rfl ?_
  refine a_dup dX10_putBytes_34 rfl ?_
  refine a_get (v := .int 12) dX10_putBytes_35 fl_10_112 (cw_l h1 (by decide)) (cw_s h1 (by decide) rfl) (cw_gi h1 rfl (by decide) (by first | decide +kernel | rfl)) ?_
  refine a_iconst (v := 1) dX10_putBytes_38 (by decide) ?_
  refine a_iadd dX10_putBytes_39 ?_
  refine a_st (st2 := [.int 13, .ref 0]) (by decide +kernel) ?_
  refine a_putI dX10_putBytes_40 (Or.inl ⟨fl_10_112, Or.inl rfl⟩) rfl (cw_l h1 (by decide)) (cw_s h1 (by decide) rfl) rfl rfl ?_
  have h2 : Cw 126 Lj134 (up2 (up2 (up2 (up2 (up2 (up2 (up2 (up2 (up2 (up2 (up2 (up2 (up2 (up2 (up2 (up2 (up2 (up2 (up2 (up2 (up2 (up2 (up2 (up2 (up2 (up2 fs42 1 0 ((iushr a 24) &&& 255)) 0 1 1) 1 1 ((iushr a 16) &&& 255)) 0 1 2) 1 2 ((iushr a 8) &&& 255)) 0 1 3) 1 3 ((iushr a 0) &&& 255)) 0 1 4) 1 4 ((iushr b 24) &&& 255)) 0 1 5) 1 5 ((iushr b 16) &&& 255)) 0 1 6) 1 6 ((iushr b 8) &&& 255)) 0 1 7) 1 7 ((iushr b 0) &&& 255)) 0 1 8) 1 8 ((iushr c 24) &&& 255)) 0 1 9) 1 9 ((iushr c 16) &&& 255)) 0 1 10) 1 10 ((iushr c 8) &&& 255)) 0 1 11) 1 11 ((iushr c 0) &&& 255)) 0 1 12) 1 12 ((iushr d 24) &&& 255)) 0 1 13) gs31 (wI M1 0 1 13) := cw_I h1 (by decide)
  generalize (wI M1 0 1 13) = M2 at h2 ⊢
  refine a_iinc (v := 16) dX10_putBytes_43 rfl (by decide) (Nat.le_of_ble_eq_true rfl) (lv2 := [(2, .int 16), (0, .ref 0), (1, .int d)]) rfl ?_
  refine a_goto 3 dX10_putBytes_46 (by decide) ?_
  refine a_iload_n dX10_putBytes_3 rfl rfl ?_
  refine a_if_lt 49 dX10_putBytes_4 (by decide) (fun c => absurd c (by decide)) (fun _ => ?_)
  refine a_aload_n dX10_putBytes_7 rfl rfl ?_
  refine a_get (v := .int 13) dX10_putBytes_8 fl_10_112 (cw_l h2 (by decide)) (cw_s h2 (by decide) rfl) (cw_gi h2 rfl (by decide) (by first | decide +kernel | rfl)) ?_
  refine a_sipush (v := 600) dX10_putBytes_11 (by decide) ?_
  refine a_icmp_ge 49 dX10_putBytes_14 (by decide) (fun c => absurd c (by decide)) (fun _ => ?_)
  refine a_aload_n dX10_putBytes_17 rfl rfl ?_
  refine a_get (v := .ref 1) dX10_putBytes_18 fl_10_9 (cw_l h2 (by decide)) (cw_s h2 (by decide) rfl) (cw_g h2 rfl (by decide +kernel)) ?_
  refine a_aload_n dX10_putBytes_21 rfl rfl ?_
  refine a_get (v := .int 13) dX10_putBytes_22 fl_10_112 (cw_l h2 (by decide)) (cw_s h2 (by decide) rfl) (cw_gi h2 rfl (by decide) (by first | decide +kernel | rfl)) ?_
  refine a_iload_n dX10_putBytes_25 rfl rfl ?_
  refine a_iload_n dX10_putBytes_26 rfl rfl ?_
  refine a_iushr dX10_putBytes_27 ?_
  refine a_sipush (v := 255) dX10_putBytes_28 (by decide) ?_
  refine a_iand dX10_putBytes_31 ?_
  refine a_iastore dX10_putBytes_32 (cw_l h2 (by decide)) (cw_s h2 (by decide) rfl) (by unfold vp_in; decide +kernel) ?_
  rw [show Int32.toNatClampNeg 13 = 13 from by decide +kernel]
  have h3 : Cw 126 Lj134 (up2 (up2 (up2 (up2 (up2 (up2 (up2 (up2 (up2 (up2 (up2 (up2 (up2 (up2 (up2 (up2 (up2 (up2 (up2 (up2 (up2 (up2 (up2 (up2 (up2 (up2 (up2 fs42 1 0 ((iushr a 24) &&& 255)) 0 1 1) 1 1 ((iushr a 16) &&& 255)) 0 1 2) 1 2 ((iushr a 8) &&& 255)) 0 1 3) 1 3 ((iushr a 0) &&& 255)) 0 1 4) 1 4 ((iushr b 24) &&& 255)) 0 1 5) 1 5 ((iushr b 16) &&& 255)) 0 1 6) 1 6 ((iushr b 8) &&& 255)) 0 1 7) 1 7 ((iushr b 0) &&& 255)) 0 1 8) 1 8 ((iushr c 24) &&& 255)) 0 1 9) 1 9 ((iushr c 16) &&& 255)) 0 1 10) 1 10 ((iushr c 8) &&& 255)) 0 1 11) 1 11 ((iushr c 0) &&& 255)) 0 1 12) 1 12 ((iushr d 24) &&& 255)) 0 1 13) 1 13 ((iushr d 16) &&& 255)) gs31 (wI M2 1 13 ((iushr d 16) &&& 255)) := cw_I h2 (by decide)
  generalize (wI M2 1 13 ((iushr d 16) &&& 255)) = M3 at h3 ⊢
  refine a_aload_n dX10_putBytes_33 rfl rfl ?_
  refine a_dup dX10_putBytes_34 rfl ?_
  refine a_get (v := .int 13) dX10_putBytes_35 fl_10_112 (cw_l h3 (by decide)) (cw_s h3 (by decide) rfl) (cw_gi h3 rfl (by decide) (by first | decide +kernel | rfl)) ?_
  refine a_iconst (v := 1) dX10_putBytes_38 (by decide) ?_
  refine a_iadd dX10_putBytes_39 ?_
  refine a_st (st2 := [.int 14, .ref 0]) (by decide +kernel) ?_
  refine a_putI dX10_putBytes_40 (Or.inl ⟨fl_10_112, Or.inl rfl⟩) rfl (cw_l h3 (by decide)) (cw_s h3 (by decide) rfl) rfl rfl ?_
  have h4 : Cw 126 Lj134 (up2 (up2 (up2 (up2 (up2 (up2 (up2 (up2 (up2 (up2 (up2 (up2 (up2 (up2 (up2 (up2 (up2 (up2 (up2 (up2 (up2 (up2 (up2 (up2 (up2 (up2 (up2 (up2 fs42 1 0 ((iushr a 24) &&& 255)) 0 1 1) 1 1 ((iushr a 16) &&& 255)) 0 1 2) 1 2 ((iushr a 8) &&& 255)) 0 1 3) 1 3 ((iushr a 0) &&& 255)) 0 1 4) 1 4 ((iushr b 24) &&& 255)) 0 1 5) 1 5 ((iushr b 16) &&& 255)) 0 1 6) 1 6 ((iushr b 8) &&& 255)) 0 1 7) 1 7 ((iushr b 0) &&& 255)) 0 1 8) 1 8 ((iushr c 24) &&& 255)) 0 1 9) 1 9 ((iushr c 16) &&& 255)) 0 1 10) 1 10 ((iushr c 8) &&& 255)) 0 1 11) 1 11 ((iushr c 0) &&& 255)) 0 1 12) 1 12 ((iushr d 24) &&& 255)) 0 1 13) 1 13 ((iushr d 16) &&& 255)) 0 1 14) gs31 (wI M3 0 1 14) := cw_I h3 (by decide)
  generalize (wI M3 0 1 14) = M4 at h4 ⊢
  refine a_iinc (v := 8) dX10_putBytes_43 rfl (by decide) (Nat.le_of_ble_eq_true rfl) (lv2 := [(2, .int 8), (0, .ref 0), (1, .int d)]) rfl ?_
  refine a_goto 3 dX10_putBytes_46 (by decide) ?_
  refine a_iload_n dX10_putBytes_3 rfl rfl ?_
  refine a_if_lt 49 dX10_putBytes_4 (by decide) (fun c => absurd c (by decide)) (fun _ => ?_)
  refine a_aload_n dX10_putBytes_7 rfl rfl ?_
  refine a_get (v := .int 14) dX10_putBytes_8 fl_10_112 (cw_l h4 (by decide)) (cw_s h4 (by decide) rfl) (cw_gi h4 rfl (by decide) (by first | decide +kernel | rfl)) ?_
  refine a_sipush (v := 600) dX10_putBytes_11 (by decide) ?_
  refine a_icmp_ge 49 dX10_putBytes_14 (by decide) (fun c => absurd c (by decide)) (fun _ => ?_)
  refine a_aload_n dX10_putBytes_17 rfl rfl ?_
  refine a_get (v := .ref 1) dX10_putBytes_18 fl_10_9 (cw_l h4 (by decide)) (cw_s h4 (by decide) rfl) (cw_g h4 rfl (by decide +kernel)) ?_
  refine a_aload_n dX10_putBytes_21 rfl rfl ?_
  refine a_get (v := .int 14) dX10_putBytes_22 fl_10_112 (cw_l h4 (by decide)) (cw_s h4 (by decide) rfl) (cw_gi h4 rfl (by decide) (by first | decide +kernel | rfl)) ?_
  refine a_iload_n dX10_putBytes_25 rfl rfl ?_
  refine a_iload_n dX10_putBytes_26 rfl rfl ?_
  refine a_iushr dX10_putBytes_27 ?_
  refine a_sipush (v := 255) dX10_putBytes_28 (by decide) ?_
  refine a_iand dX10_putBytes_31 ?_
  refine a_iastore dX10_putBytes_32 (cw_l h4 (by decide)) (cw_s h4 (by decide) rfl) (by unfold vp_in; decide +kernel) ?_
  rw [show Int32.toNatClampNeg 14 = 14 from by decide +kernel]
  have h5 : Cw 126 Lj134 (up2 (up2 (up2 (up2 (up2 (up2 (up2 (up2 (up2 (up2 (up2 (up2 (up2 (up2 (up2 (up2 (up2 (up2 (up2 (up2 (up2 (up2 (up2 (up2 (up2 (up2 (up2 (up2 (up2 fs42 1 0 ((iushr a 24) &&& 255)) 0 1 1) 1 1 ((iushr a 16) &&& 255)) 0 1 2) 1 2 ((iushr a 8) &&& 255)) 0 1 3) 1 3 ((iushr a 0) &&& 255)) 0 1 4) 1 4 ((iushr b 24) &&& 255)) 0 1 5) 1 5 ((iushr b 16) &&& 255)) 0 1 6) 1 6 ((iushr b 8) &&& 255)) 0 1 7) 1 7 ((iushr b 0) &&& 255)) 0 1 8) 1 8 ((iushr c 24) &&& 255)) 0 1 9) 1 9 ((iushr c 16) &&& 255)) 0 1 10) 1 10 ((iushr c 8) &&& 255)) 0 1 11) 1 11 ((iushr c 0) &&& 255)) 0 1 12) 1 12 ((iushr d 24) &&& 255)) 0 1 13) 1 13 ((iushr d 16) &&& 255)) 0 1 14) 1 14 ((iushr d 8) &&& 255)) gs31 (wI M4 1 14 ((iushr d 8) &&& 255)) := cw_I h4 (by decide)
  generalize (wI M4 1 14 ((iushr d 8) &&& 255)) = M5 at h5 ⊢
  refine a_aload_n dX10_putBytes_33 rfl rfl ?_
  refine a_dup dX10_putBytes_34 rfl ?_
  refine a_get (v := .int 14) dX10_putBytes_35 fl_10_112 (cw_l h5 (by decide)) (cw_s h5 (by decide) rfl) (cw_gi h5 rfl (by decide) (by first | decide +kernel | rfl)) ?_
  refine a_iconst (v := 1) dX10_putBytes_38 (by decide) ?_
  refine a_iadd dX10_putBytes_39 ?_
  refine a_st (st2 := [.int 15, .ref 0]) (by decide +kernel) ?_
  refine a_putI dX10_putBytes_40 (Or.inl ⟨fl_10_112, Or.inl rfl⟩) rfl (cw_l h5 (by decide)) (cw_s h5 (by decide) rfl) rfl rfl ?_
  have h6 : Cw 126 Lj134 (up2 (up2 (up2 (up2 (up2 (up2 (up2 (up2 (up2 (up2 (up2 (up2 (up2 (up2 (up2 (up2 (up2 (up2 (up2 (up2 (up2 (up2 (up2 (up2 (up2 (up2 (up2 (up2 (up2 (up2 fs42 1 0 ((iushr a 24) &&& 255)) 0 1 1) 1 1 ((iushr a 16) &&& 255)) 0 1 2) 1 2 ((iushr a 8) &&& 255)) 0 1 3) 1 3 ((iushr a 0) &&& 255)) 0 1 4) 1 4 ((iushr b 24) &&& 255)) 0 1 5) 1 5 ((iushr b 16) &&& 255)) 0 1 6) 1 6 ((iushr b 8) &&& 255)) 0 1 7) 1 7 ((iushr b 0) &&& 255)) 0 1 8) 1 8 ((iushr c 24) &&& 255)) 0 1 9) 1 9 ((iushr c 16) &&& 255)) 0 1 10) 1 10 ((iushr c 8) &&& 255)) 0 1 11) 1 11 ((iushr c 0) &&& 255)) 0 1 12) 1 12 ((iushr d 24) &&& 255)) 0 1 13) 1 13 ((iushr d 16) &&& 255)) 0 1 14) 1 14 ((iushr d 8) &&& 255)) 0 1 15) gs31 (wI M5 0 1 15) := cw_I h5 (by decide)
  generalize (wI M5 0 1 15) = M6 at h6 ⊢
  refine a_iinc (v := 0) dX10_putBytes_43 rfl (by decide) (Nat.le_of_ble_eq_true rfl) (lv2 := [(2, .int 0), (0, .ref 0), (1, .int d)]) rfl ?_
  refine a_goto 3 dX10_putBytes_46 (by decide) ?_
  refine a_iload_n dX10_putBytes_3 rfl rfl ?_
  refine a_if_lt 49 dX10_putBytes_4 (by decide) (fun c => absurd c (by decide)) (fun _ => ?_)
  refine a_aload_n dX10_putBytes_7 rfl rfl ?_
  refine a_get (v := .int 15) dX10_putBytes_8 fl_10_112 (cw_l h6 (by decide)) (cw_s h6 (by decide) rfl) (cw_gi h6 rfl (by decide) (by first | decide +kernel | rfl)) ?_
  refine a_sipush (v := 600) dX10_putBytes_11 (by decide) ?_
  refine a_icmp_ge 49 dX10_putBytes_14 (by decide) (fun c => absurd c (by decide)) (fun _ => ?_)
  refine a_aload_n dX10_putBytes_17 rfl rfl ?_
  refine a_get (v := .ref 1) dX10_putBytes_18 fl_10_9 (cw_l h6 (by decide)) (cw_s h6 (by decide) rfl) (cw_g h6 rfl (by decide +kernel)) ?_
  refine a_aload_n dX10_putBytes_21 rfl rfl ?_
  refine a_get (v := .int 15) dX10_putBytes_22 fl_10_112 (cw_l h6 (by decide)) (cw_s h6 (by decide) rfl) (cw_gi h6 rfl (by decide) (by first | decide +kernel | rfl)) ?_
  refine a_iload_n dX10_putBytes_25 rfl rfl ?_
  refine a_iload_n dX10_putBytes_26 rfl rfl ?_
  refine a_iushr dX10_putBytes_27 ?_
  refine a_sipush (v := 255) dX10_putBytes_28 (by decide) ?_
  refine a_iand dX10_putBytes_31 ?_
  refine a_iastore dX10_putBytes_32 (cw_l h6 (by decide)) (cw_s h6 (by decide) rfl) (by unfold vp_in; decide +kernel) ?_
  rw [show Int32.toNatClampNeg 15 = 15 from by decide +kernel]
  have h7 : Cw 126 Lj134 (up2 (up2 (up2 (up2 (up2 (up2 (up2 (up2 (up2 (up2 (up2 (up2 (up2 (up2 (up2 (up2 (up2 (up2 (up2 (up2 (up2 (up2 (up2 (up2 (up2 (up2 (up2 (up2 (up2 (up2 (up2 fs42 1 0 ((iushr a 24) &&& 255)) 0 1 1) 1 1 ((iushr a 16) &&& 255)) 0 1 2) 1 2 ((iushr a 8) &&& 255)) 0 1 3) 1 3 ((iushr a 0) &&& 255)) 0 1 4) 1 4 ((iushr b 24) &&& 255)) 0 1 5) 1 5 ((iushr b 16) &&& 255)) 0 1 6) 1 6 ((iushr b 8) &&& 255)) 0 1 7) 1 7 ((iushr b 0) &&& 255)) 0 1 8) 1 8 ((iushr c 24) &&& 255)) 0 1 9) 1 9 ((iushr c 16) &&& 255)) 0 1 10) 1 10 ((iushr c 8) &&& 255)) 0 1 11) 1 11 ((iushr c 0) &&& 255)) 0 1 12) 1 12 ((iushr d 24) &&& 255)) 0 1 13) 1 13 ((iushr d 16) &&& 255)) 0 1 14) 1 14 ((iushr d 8) &&& 255)) 0 1 15) 1 15 ((iushr d 0) &&& 255)) gs31 (wI M6 1 15 ((iushr d 0) &&& 255)) := cw_I h6 (by decide)
  generalize (wI M6 1 15 ((iushr d 0) &&& 255)) = M7 at h7 ⊢
  refine a_aload_n dX10_putBytes_33 rfl rfl ?_
  refine a_dup dX10_putBytes_34 rfl ?_
  refine a_get (v := .int 15) dX10_putBytes_35 fl_10_112 (cw_l h7 (by decide)) (cw_s h7 (by decide) rfl) (cw_gi h7 rfl (by decide) (by first | decide +kernel | rfl)) ?_
  refine a_iconst (v := 1) dX10_putBytes_38 (by decide) ?_
  refine a_iadd dX10_putBytes_39 ?_
  refine a_st (st2 := [.int 16, .ref 0]) (by decide +kernel) ?_
  refine a_putI dX10_putBytes_40 (Or.inl ⟨fl_10_112, Or.inl rfl⟩) rfl (cw_l h7 (by decide)) (cw_s h7 (by decide) rfl) rfl rfl ?_
  have h8 : Cw 126 Lj134 (up2 (up2 (up2 (up2 (up2 (up2 (up2 (up2 (up2 (up2 (up2 (up2 (up2 (up2 (up2 (up2 (up2 (up2 (up2 (up2 (up2 (up2 (up2 (up2 (up2 (up2 (up2 (up2 (up2 (up2 (up2 (up2 fs42 1 0 ((iushr a 24) &&& 255)) 0 1 1) 1 1 ((iushr a 16) &&& 255)) 0 1 2) 1 2 ((iushr a 8) &&& 255)) 0 1 3) 1 3 ((iushr a 0) &&& 255)) 0 1 4) 1 4 ((iushr b 24) &&& 255)) 0 1 5) 1 5 ((iushr b 16) &&& 255)) 0 1 6) 1 6 ((iushr b 8) &&& 255)) 0 1 7) 1 7 ((iushr b 0) &&& 255)) 0 1 8) 1 8 ((iushr c 24) &&& 255)) 0 1 9) 1 9 ((iushr c 16) &&& 255)) 0 1 10) 1 10 ((iushr c 8) &&& 255)) 0 1 11) 1 11 ((iushr c 0) &&& 255)) 0 1 12) 1 12 ((iushr d 24) &&& 255)) 0 1 13) 1 13 ((iushr d 16) &&& 255)) 0 1 14) 1 14 ((iushr d 8) &&& 255)) 0 1 15) 1 15 ((iushr d 0) &&& 255)) 0 1 16) gs31 (wI M7 0 1 16) := cw_I h7 (by decide)
  generalize (wI M7 0 1 16) = M8 at h8 ⊢
  refine a_iinc (v := (-8)) dX10_putBytes_43 rfl (by decide) (Nat.le_of_ble_eq_true rfl) (lv2 := [(2, .int (-8)), (0, .ref 0), (1, .int d)]) rfl ?_
  refine a_goto 3 dX10_putBytes_46 (by decide) ?_
  refine a_iload_n dX10_putBytes_3 rfl rfl ?_
  refine a_if_lt 49 dX10_putBytes_4 (by decide) (fun _ => ?_) (fun c => absurd (by decide) c)
  exact a_vret dX10_putBytes_49 rfl ⟨rfl, h8⟩
set_option maxHeartbeats 4000000 in
set_option maxRecDepth 100000 in
theorem z5_X10_putBytes {X : Nat × (Nat → Int32)} {fr : Nat} {M : Mem} (a : Int32) (b : Int32) (c : Int32) (d : Int32) (e : Int32) (h0 : Cw 126 Lj134 (up2 (up2 (up2 (up2 (up2 (up2 (up2 (up2 (up2 (up2 (up2 (up2 (up2 (up2 (up2 (up2 (up2 (up2 (up2 (up2 (up2 (up2 (up2 (up2 (up2 (up2 (up2 (up2 (up2 (up2 (up2 (up2 fs42 1 0 ((iushr a 24) &&& 255)) 0 1 1) 1 1 ((iushr a 16) &&& 255)) 0 1 2) 1 2 ((iushr a 8) &&& 255)) 0 1 3) 1 3 ((iushr a 0) &&& 255)) 0 1 4) 1 4 ((iushr b 24) &&& 255)) 0 1 5) 1 5 ((iushr b 16) &&& 255)) 0 1 6) 1 6 ((iushr b 8) &&& 255)) 0 1 7) 1 7 ((iushr b 0) &&& 255)) 0 1 8) 1 8 ((iushr c 24) &&& 255)) 0 1 9) 1 9 ((iushr c 16) &&& 255)) 0 1 10) 1 10 ((iushr c 8) &&& 255)) 0 1 11) 1 11 ((iushr c 0) &&& 255)) 0 1 12) 1 12 ((iushr d 24) &&& 255)) 0 1 13) 1 13 ((iushr d 16) &&& 255)) 0 1 14) 1 14 ((iushr d 8) &&& 255)) 0 1 15) 1 15 ((iushr d 0) &&& 255)) 0 1 16) gs31 M) : AM yX10_putBytes cX10_putBytes 3 none true (fr + 7) 0 0 X [.ref 0, .int e] M (fun v M1 => v = none ∧ Cw 126 Lj134 (up2 (up2 (up2 (up2 (up2 (up2 (up2 (up2 (up2 (up2 (up2 (up2 (up2 (up2 (up2 (up2 (up2 (up2 (up2 (up2 (up2 (up2 (up2 (up2 (up2 (up2 (up2 (up2 (up2 (up2 (up2 (up2 (up2 (up2 (up2 (up2 (up2 (up2 (up2 (up2 fs42 1 0 ((iushr a 24) &&& 255)) 0 1 1) 1 1 ((iushr a 16) &&& 255)) 0 1 2) 1 2 ((iushr a 8) &&& 255)) 0 1 3) 1 3 ((iushr a 0) &&& 255)) 0 1 4) 1 4 ((iushr b 24) &&& 255)) 0 1 5) 1 5 ((iushr b 16) &&& 255)) 0 1 6) 1 6 ((iushr b 8) &&& 255)) 0 1 7) 1 7 ((iushr b 0) &&& 255)) 0 1 8) 1 8 ((iushr c 24) &&& 255)) 0 1 9) 1 9 ((iushr c 16) &&& 255)) 0 1 10) 1 10 ((iushr c 8) &&& 255)) 0 1 11) 1 11 ((iushr c 0) &&& 255)) 0 1 12) 1 12 ((iushr d 24) &&& 255)) 0 1 13) 1 13 ((iushr d 16) &&& 255)) 0 1 14) 1 14 ((iushr d 8) &&& 255)) 0 1 15) 1 15 ((iushr d 0) &&& 255)) 0 1 16) 1 16 ((iushr e 24) &&& 255)) 0 1 17) 1 17 ((iushr e 16) &&& 255)) 0 1 18) 1 18 ((iushr e 8) &&& 255)) 0 1 19) 1 19 ((iushr e 0) &&& 255)) 0 1 20) gs31 M1) := by
  refine AM.of false (by decide +kernel) (by intro h; cases h) (Nat.le_of_ble_eq_true rfl) ?_
  show AW X (RX10, cX10_putBytes, 3, none, false, true, fr + 7) 0 0 0 [(0, .ref 0), (1, .int e)] [] M _
  refine a_bipush (v := 24) dX10_putBytes_0 (by decide) ?_
  refine a_istore_n dX10_putBytes_2 rfl (Nat.le_of_ble_eq_true rfl) (lv2 := [(2, .int 24), (0, .ref 0), (1, .int e)]) rfl ?_
  refine a_iload_n dX10_putBytes_3 rfl rfl ?_
  refine a_if_lt 49 dX10_putBytes_4 (by decide) (fun c => absurd c (by decide)) (fun _ => ?_)
  refine a_aload_n dX10_putBytes_7 rfl rfl ?_
  refine a_get (v := .int 16) dX10_putBytes_8 fl_10_112 (cw_l h0 (by decide)) (cw_s h0 (by decide) rfl) (cw_gi h0 rfl (by decide) (by first | decide +kernel | rfl)) ?_
  refine a_sipush (v := 600) dX10_putBytes_11 (by decide) ?_
  refine a_icmp_ge 49 dX10_putBytes_14 (by decide) (fun c => absurd c (by decide)) (fun _ => ?_)
  refine a_aload_n dX10_putBytes_17 rfl rfl ?_
  refine a_get (v := .ref 1) dX10_putBytes_18 fl_10_9 (cw_l h0 (by decide)) (cw_s h0 (by decide) rfl) (cw_g h0 rfl (by decide +kernel)) ?_
  refine a_aload_n dX10_putBytes_21 rfl rfl ?_
  refine a_get (v := .int 16) dX10_putBytes_22 fl_10_112 (cw_l h0 (by decide)) (cw_s h0 (by decide) rfl) (cw_gi h0 rfl (by decide) (by first | decide +kernel | rfl)) ?_
  refine a_iload_n dX10_putBytes_25 rfl rfl ?_
  refine a_iload_n dX10_putBytes_26 rfl rfl ?_
  refine a_iushr dX10_putBytes_27 ?_
  refine a_sipush (v := 255) dX10_putBytes_28 (by decide) ?_
  refine a_iand dX10_putBytes_31 ?_
  refine a_iastore dX10_putBytes_32 (cw_l h0 (by decide)) (cw_s h0 (by decide) rfl) (by unfold vp_in; decide +kernel) ?_
  rw [show Int32.toNatClampNeg 16 = 16 from by decide +kernel]
  have h1 : Cw 126 Lj134 (up2 (up2 (up2 (up2 (up2 (up2 (up2 (up2 (up2 (up2 (up2 (up2 (up2 (up2 (up2 (up2 (up2 (up2 (up2 (up2 (up2 (up2 (up2 (up2 (up2 (up2 (up2 (up2 (up2 (up2 (up2 (up2 (up2 fs42 1 0 ((iushr a 24) &&& 255)) 0 1 1) 1 1 ((iushr a 16) &&& 255)) 0 1 2) 1 2 ((iushr a 8) &&& 255)) 0 1 3) 1 3 ((iushr a 0) &&& 255)) 0 1 4) 1 4 ((iushr b 24) &&& 255)) 0 1 5) 1 5 ((iushr b 16) &&& 255)) 0 1 6) 1 6 ((iushr b 8) &&& 255)) 0 1 7) 1 7 ((iushr b 0) &&& 255)) 0 1 8) 1 8 ((iushr c 24) &&& 255)) 0 1 9) 1 9 ((iushr c 16) &&& 255)) 0 1 10) 1 10 ((iushr c 8) &&& 255)) 0 1 11) 1 11 ((iushr c 0) &&& 255)) 0 1 12) 1 12 ((iushr d 24) &&& 255)) 0 1 13) 1 13 ((iushr d 16) &&& 255)) 0 1 14) 1 14 ((iushr d 8) &&& 255)) 0 1 15) 1 15 ((iushr d 0) &&& 255)) 0 1 16) 1 16 ((iushr e 24) &&& 255)) gs31 (wI M 1 16 ((iushr e 24) &&& 255)) := cw_I h0 (by decide)
  generalize (wI M 1 16 ((iushr e 24) &&& 255)) = M1 at h1 ⊢
  refine a_aload_n dX10_putBytes_33 rfl rfl ?_
  refine a_dup dX10_putBytes_34 rfl ?_
  refine a_get (v := .int 16) dX10_putBytes_35 fl_10_112 (cw_l h1 (by decide)) (cw_s h1 (by decide) rfl) (cw_gi h1 rfl (by decide) (by first | decide +kernel | rfl)) ?_
  refine a_iconst (v := 1) dX10_putBytes_38 (by decide) ?_
  refine a_iadd dX10_putBytes_39 ?_
  refine a_st (st2 := [.int 17, .ref 0]) (by decide +kernel) ?_
  refine a_putI dX10_putBytes_40 (Or.inl ⟨fl_10_112, Or.inl rfl⟩) rfl (cw_l h1 (by decide)) (cw_s h1 (by decide) rfl) rfl rfl ?_
  have h2 : Cw 126 Lj134 (up2 (up2 (up2 (up2 (up2 (up2 (up2 (up2 (up2 (up2 (up2 (up2 (up2 (up2 (up2 (up2 (up2 (up2 (up2 (up2 (up2 (up2 (up2 (up2 (up2 (up2 (up2 (up2 (up2 (up2 (up2 (up2 (up2 (up2 fs42 1 0 ((iushr a 24) &&& 255)) 0 1 1) 1 1 ((iushr a 16) &&& 255)) 0 1 2) 1 2 ((iushr a 8) &&& 255)) 0 1 3) 1 3 ((iushr a 0) &&& 255)) 0 1 4) 1 4 ((iushr b 24) &&& 255)) 0 1 5) 1 5 ((iushr b 16) &&& 255)) 0 1 6) 1 6 ((iushr b 8) &&& 255)) 0 1 7) 1 7 ((iushr b 0) &&& 255)) 0 1 8) 1 8 ((iushr c 24) &&& 255)) 0 1 9) 1 9 ((iushr c 16) &&& 255)) 0 1 10) 1 10 ((iushr c 8) &&& 255)) 0 1 11) 1 11 ((iushr c 0) &&& 255)) 0 1 12) 1 12 ((iushr d 24) &&& 255)) 0 1 13) 1 13 ((iushr d 16) &&& 255)) 0 1 14) 1 14 ((iushr d 8) &&& 255)) 0 1 15) 1 15 ((iushr d 0) &&& 255)) 0 1 16) 1 16 ((iushr e 24) &&& 255)) 0 1 17) gs31 (wI M1 0 1 17) := cw_I h1 (by decide)
  generalize (wI M1 0 1 17) = M2 at h2 ⊢
  refine a_iinc (v := 16) dX10_putBytes_43 rfl (by decide) (Nat.le_of_ble_eq_true rfl) (lv2 := [(2, .int 16), (0, .ref 0), (1, .int e)]) rfl ?_
  refine a_goto 3 dX10_putBytes_46 (by decide) ?_
  refine a_iload_n dX10_putBytes_3 rfl rfl ?_
  refine a_if_lt 49 dX10_putBytes_4 (by decide) (fun c => absurd c (by decide)) (fun _ => ?_)
  refine a_aload_n dX10_putBytes_7 rfl rfl ?_
  refine a_get (v := .int 17) dX10_putBytes_8 fl_10_112 (cw_l h2 (by decide)) (cw_s h2 (by decide) rfl) (cw_gi h2 rfl (by decide) (by first | decide +kernel | rfl)) ?_
  refine a_sipush (v := 600) dX10_putBytes_11 (by decide) ?_
  refine a_icmp_ge 49 dX10_putBytes_14 (by decide) (fun c => absurd c (by decide)) (fun _ => ?_)
  refine a_aload_n dX10_putBytes_17 rfl rfl ?_
  refine a_get (v := .ref 1) dX10_putBytes_18 fl_10_9 (cw_l h2 (by decide)) (cw_s h2 (by decide) rfl) (cw_g h2 rfl (by decide +kernel)) ?_
  refine a_aload_n dX10_putBytes_21 rfl rfl ?_
  refine a_get (v := .int 17) dX10_putBytes_22 fl_10_112 (cw_l h2 (by decide)) (cw_s h2 (by decide) rfl) (cw_gi h2 rfl (by decide) (by first | decide +kernel | rfl)) ?_
  refine a_iload_n dX10_putBytes_25 rfl rfl ?_
  refine a_iload_n dX10_putBytes_26 rfl rfl ?_
  refine a_iushr dX10_putBytes_27 ?_
  refine a_sipush (v := 255) dX10_putBytes_28 (by decide) ?_
  refine a_iand dX10_putBytes_31 ?_
  refine a_iastore dX10_putBytes_32 (cw_l h2 (by decide)) (cw_s h2 (by decide) rfl) (by unfold vp_in; decide +kernel) ?_
  rw [show Int32.toNatClampNeg 17 = 17 from by decide +kernel]
  have h3 : Cw 126 Lj134 (up2 (up2 (up2 (up2 (up2 (up2 (up2 (up2 (up2 (up2 (up2 (up2 (up2 (up2 (up2 (up2 (up2 (up2 (up2 (up2 (up2 (up2 (up2 (up2 (up2 (up2 (up2 (up2 (up2 (up2 (up2 (up2 (up2 (up2 (up2 fs42 1 0 ((iushr a 24) &&& 255)) 0 1 1) 1 1 ((iushr a 16) &&& 255)) 0 1 2) 1 2 ((iushr a 8) &&& 255)) 0 1 3) 1 3 ((iushr a 0) &&& 255)) 0 1 4) 1 4 ((iushr b 24) &&& 255)) 0 1 5) 1 5 ((iushr b 16) &&& 255)) 0 1 6) 1 6 ((iushr b 8) &&& 255)) 0 1 7) 1 7 ((iushr b 0) &&& 255)) 0 1 8) 1 8 ((iushr c 24) &&& 255)) 0 1 9) 1 9 ((iushr c 16) &&& 255)) 0 1 10) 1 10 ((iushr c 8) &&& 255)) 0 1 11) 1 11 ((iushr c 0) &&& 255)) 0 1 12) 1 12 ((iushr d 24) &&& 255)) 0 1 13) 1 13 ((iushr d 16) &&& 255)) 0 1 14) 1 14 ((iushr d 8) &&& 255)) 0 1 15) 1 15 ((iushr d 0) &&& 255)) 0 1 16) 1 16 ((iushr e 24) &&& 255)) 0 1 17) 1 17 ((iushr e 16) &&& 255)) gs31 (wI M2 1 17 ((iushr e 16) &&& 255)) := cw_I h2 (by decide)
  generalize (wI M2 1 17 ((iushr e 16) &&& 255)) = M3 at h3 ⊢
  refine a_aload_n dX10_putBytes_33 rfl rfl ?_
  refine a_dup dX10_putBytes_34 rfl ?_
  refine a_get (v := .int 17) dX10_putBytes_35 fl_10_112 (cw_l h3 (by decide)) (cw_s h3 (by decide) rfl) (cw_gi h3 rfl (by decide) (by first | decide +kernel | rfl)) ?_
  refine a_iconst (v := 1) dX10_putBytes_38 (by decide) ?_
  refine a_iadd dX10_putBytes_39 ?_
  refine a_st (st2 := [.int 18, .ref 0]) (by decide +kernel) ?_
  refine a_putI dX10_putBytes_40 (Or.inl ⟨fl_10_112, Or.inl rfl⟩) rfl (cw_l h3 (by decide)) (cw_s h3 (by decide) rfl) rfl rfl ?_
  have h4 : Cw 126 Lj134 (up2 (up2 (up2 (up2 (up2 (up2 (up2 (up2 (up2 (up2 (up2 (up2 (up2 (up2 (up2 (up2 (up2 (up2 (up2 (up2 (up2 (up2 (up2 (up2 (up2 (up2 (up2 (up2 (up2 (up2 (up2 (up2 (up2 (up2 (up2 (up2 fs42 1 0 ((iushr a 24) &&& 255)) 0 1 1) 1 1 ((iushr a 16) &&& 255)) 0 1 2) 1 2 ((iushr a 8) &&& 255)) 0 1 3) 1 3 ((iushr a 0) &&& 255)) 0 1 4) 1 4 ((iushr b 24) &&& 255)) 0 1 5) 1 5 ((iushr b 16) &&& 255)) 0 1 6) 1 6 ((iushr b 8) &&& 255)) 0 1 7) 1 7 ((iushr b 0) &&& 255)) 0 1 8) 1 8 ((iushr c 24) &&& 255)) 0 1 9) 1 9 ((iushr c 16) &&& 255)) 0 1 10) 1 10 ((iushr c 8) &&& 255)) 0 1 11) 1 11 ((iushr c 0) &&& 255)) 0 1 12) 1 12 ((iushr d 24) &&& 255)) 0 1 13) 1 13 ((iushr d 16) &&& 255)) 0 1 14) 1 14 ((iushr d 8) &&& 255)) 0 1 15) 1 15 ((iushr d 0) &&& 255)) 0 1 16) 1 16 ((iushr e 24) &&& 255)) 0 1 17) 1 17 ((iushr e 16) &&& 255)) 0 1 18) gs31 (wI M3 0 1 18) := cw_I h3 (by decide)
  generalize (wI M3 0 1 18) = M4 at h4 ⊢
  refine a_iinc (v := 8) dX10_putBytes_43 rfl (by decide) (Nat.le_of_ble_eq_true rfl) (lv2 := [(2, .int 8), (0, .ref 0), (1, .int e)]) rfl ?_
  refine a_goto 3 dX10_putBytes_46 (by decide) ?_
  refine a_iload_n dX10_putBytes_3 rfl rfl ?_
  refine a_if_lt 49 dX10_putBytes_4 (by decide) (fun c => absurd c (by decide)) (fun _ => ?_)
  refine a_aload_n dX10_putBytes_7 rfl rfl ?_
  refine a_get (v := .int 18) dX10_putBytes_8 fl_10_112 (cw_l h4 (by decide)) (cw_s h4 (by decide) rfl) (cw_gi h4 rfl (by decide) (by first | decide +kernel | rfl)) ?_
  refine a_sipush (v := 600) dX10_putBytes_11 (by decide) ?_
  refine a_icmp_ge 49 dX10_putBytes_14 (by decide) (fun c => absurd c (by decide)) (fun _ => ?_)
  refine a_aload_n dX10_putBytes_17 rfl rfl ?_
  refine a_get (v := .ref 1) dX10_putBytes_18 fl_10_9 (cw_l h4 (by decide)) (cw_s h4 (by decide) rfl) (cw_g h4 rfl (by decide +kernel)) ?_
  refine a_aload_n dX10_putBytes_21 rfl rfl ?_
  refine a_get (v := .int 18) dX10_putBytes_22 fl_10_112 (cw_l h4 (by decide)) (cw_s h4 (by decide) rfl) (cw_gi h4 rfl (by decide) (by first | decide +kernel | rfl)) ?_
  refine a_iload_n dX10_putBytes_25 rfl rfl ?_
  refine a_iload_n dX10_putBytes_26 rfl rfl ?_
  refine a_iushr dX10_putBytes_27 ?_
  refine a_sipush (v := 255) dX10_putBytes_28 (by decide) ?_
  refine a_iand dX10_putBytes_31 ?_
  refine a_iastore dX10_putBytes_32 (cw_l h4 (by decide)) (cw_s h4 (by decide) rfl) (by unfold vp_in; decide +kernel) ?_
  rw [show Int32.toNatClampNeg 18 = 18 from by decide +kernel]
  have h5 : Cw 126 Lj134 (up2 (up2 (up2 (up2 (up2 (up2 (up2 (up2 (up2 (up2 (up2 (up2 (up2 (up2 (up2 (up2 (up2 (up2 (up2 (up2 (up2 (up2 (up2 (up2 (up2 (up2 (up2 (up2 (up2 (up2 (up2 (up2 (up2 (up2 (up2 (up2 (up2 fs42 1 0 ((iushr a 24) &&& 255)) 0 1 1) 1 1 ((iushr a 16) &&& 255)) 0 1 2) 1 2 ((iushr a 8) &&& 255)) 0 1 3) 1 3 ((iushr a 0) &&& 255)) 0 1 4) 1 4 ((iushr b 24) &&& 255)) 0 1 5) 1 5 ((iushr b 16) &&& 255)) 0 1 6) 1 6 ((iushr b 8) &&& 255)) 0 1 7) 1 7 ((iushr b 0) &&& 255)) 0 1 8) 1 8 ((iushr c 24) &&& 255)) 0 1 9) 1 9 ((iushr c 16) &&& 255)) 0 1 10) 1 10 ((iushr c 8) &&& 255)) 0 1 11) 1 11 ((iushr c 0) &&& 255)) 0 1 12) 1 12 ((iushr d 24) &&& 255)) 0 1 13) 1 13 ((iushr d 16) &&& 255)) 0 1 14) 1 14 ((iushr d 8) &&& 255)) 0 1 15) 1 15 ((iushr d 0) &&& 255)) 0 1 16) 1 16 ((iushr e 24) &&& 255)) 0 1 17) 1 17 ((iushr e 16) &&& 255)) 0 1 18) 1 18 ((iushr e 8) &&& 255)) gs31 (wI M4 1 18 ((iushr e 8) &&& 255)) := cw_I h4 (by decide)
  generalize (wI M4 1 18 ((iushr e 8) &&& 255)) = M5 at h5 ⊢
  refine a_aload_n dX10_putBytes_33 rfl rfl ?_
  refine a_dup dX10_putBytes_34 rfl ?_
  refine a_get (v := .int 18) dX10_putBytes_35 fl_10_112 (cw_l h5 (by decide)) (cw_s h5 (by decide) rfl) (cw_gi h5 rfl (by decide) (by first | decide +kernel | rfl)) ?_
  refine a_iconst (v := 1) dX10_putBytes_38 (by decide) ?_
  refine a_iadd dX10_putBytes_39 ?_
  refine a_st (st2 := [.int 19, .ref 0]) (by decide +kernel) ?_
  refine a_putI dX10_putBytes_40 (Or.inl ⟨fl_10_112, Or.inl rfl⟩) rfl (cw_l h5 (by decide)) (cw_s h5 (by decide) rfl) rfl rfl ?_
  have h6 : Cw 126 Lj134 (up2 (up2 (up2 (up2 (up2 (up2 (up2 (up2 (up2 (up2 (up2 (up2 (up2 (up2 (up2 (up2 (up2 (up2 (up2 (up2 (up2 (up2 (up2 (up2 (up2 (up2 (up2 (up2 (up2 (up2 (up2 (up2 (up2 (up2 (up2 (up2 (up2 (up2 fs42 1 0 ((iushr a 24) &&& 255)) 0 1 1) 1 1 ((iushr a 16) &&& 255)) 0 1 2) 1 2 ((iushr a 8) &&& 255)) 0 1 3) 1 3 ((iushr a 0) &&& 255)) 0 1 4) 1 4 ((iushr b 24) &&& 255)) 0 1 5) 1 5 ((iushr b 16) &&& 255)) 0 1 6) 1 6 ((iushr b 8) &&& 255)) 0 1 7) 1 7 ((iushr b 0) &&& 255)) 0 1 8) 1 8 ((iushr c 24) &&& 255)) 0 1 9) 1 9 ((iushr c 16) &&& 255)) 0 1 10) 1 10 ((iushr c 8) &&& 255)) 0 1 11) 1 11 ((iushr c 0) &&& 255)) 0 1 12) 1 12 ((iushr d 24) &&& 255)) 0 1 13) 1 13 ((iushr d 16) &&& 255)) 0 1 14) 1 14 ((iushr d 8) &&& 255)) 0 1 15) 1 15 ((iushr d 0) &&& 255)) 0 1 16) 1 16 ((iushr e 24) &&& 255)) 0 1 17) 1 17 ((iushr e 16) &&& 255)) 0 1 18) 1 18 ((iushr e 8) &&& 255)) 0 1 19) gs31 (wI M5 0 1 19) := cw_I h5 (by decide)
  generalize (wI M5 0 1 19) = M6 at h6 ⊢
  refine a_iinc (v := 0) dX10_putBytes_43 rfl (by decide) (Nat.le_of_ble_eq_true rfl) (lv2 := [(2, .int 0), (0, .ref 0), (1, .int e)]) rfl ?_
  refine a_goto 3 dX10_putBytes_46 (by decide) ?_
  refine a_iload_n dX10_putBytes_3 rfl rfl ?_
  refine a_if_lt 49 dX10_putBytes_4 (by decide) (fun c => absurd c (by decide)) (fun _ => ?_)
  refine a_aload_n dX10_putBytes_7 rfl rfl ?_
  refine a_get (v := .int 19) dX10_putBytes_8 fl_10_112 (cw_l h6 (by decide)) (cw_s h6 (by decide) rfl) (cw_gi h6 rfl (by decide) (by first | decide +kernel | rfl)) ?_
  refine a_sipush (v := 600) dX10_putBytes_11 (by decide) ?_
  refine a_icmp_ge 49 dX10_putBytes_14 (by decide) (fun c => absurd c (by decide)) (fun _ => ?_)
  refine a_aload_n dX10_putBytes_17 rfl rfl ?_
  refine a_get (v := .ref 1) dX10_putBytes_18 fl_10_9 (cw_l h6 (by decide)) (cw_s h6 (by decide) rfl) (cw_g h6 rfl (by decide +kernel)) ?_
  refine a_aload_n dX10_putBytes_21 rfl rfl ?_
  refine a_get (v := .int 19) dX10_putBytes_22 fl_10_112 (cw_l h6 (by decide)) (cw_s h6 (by decide) rfl) (cw_gi h6 rfl (by decide) (by first | decide +kernel | rfl)) ?_
  refine a_iload_n dX10_putBytes_25 rfl rfl ?_
  refine a_iload_n dX10_putBytes_26 rfl rfl ?_
  refine a_iushr dX10_putBytes_27 ?_
  refine a_sipush (v := 255) dX10_putBytes_28 (by decide) ?_
  refine a_iand dX10_putBytes_31 ?_
  refine a_iastore dX10_putBytes_32 (cw_l h6 (by decide)) (cw_s h6 (by decide) rfl) (by unfold vp_in; decide +kernel) ?_
  rw [show Int32.toNatClampNeg 19 = 19 from by decide +kernel]
  have h7 : Cw 126 Lj134 (up2 (up2 (up2 (up2 (up2 (up2 (up2 (up2 (up2 (up2 (up2 (up2 (up2 (up2 (up2 (up2 (up2 (up2 (up2 (up2 (up2 (up2 (up2 (up2 (up2 (up2 (up2 (up2 (up2 (up2 (up2 (up2 (up2 (up2 (up2 (up2 (up2 (up2 (up2 fs42 1 0 ((iushr a 24) &&& 255)) 0 1 1) 1 1 ((iushr a 16) &&& 255)) 0 1 2) 1 2 ((iushr a 8) &&& 255)) 0 1 3) 1 3 ((iushr a 0) &&& 255)) 0 1 4) 1 4 ((iushr b 24) &&& 255)) 0 1 5) 1 5 ((iushr b 16) &&& 255)) 0 1 6) 1 6 ((iushr b 8) &&& 255)) 0 1 7) 1 7 ((iushr b 0) &&& 255)) 0 1 8) 1 8 ((iushr c 24) &&& 255)) 0 1 9) 1 9 ((iushr c 16) &&& 255)) 0 1 10) 1 10 ((iushr c 8) &&& 255)) 0 1 11) 1 11 ((iushr c 0) &&& 255)) 0 1 12) 1 12 ((iushr d 24) &&& 255)) 0 1 13) 1 13 ((iushr d 16) &&& 255)) 0 1 14) 1 14 ((iushr d 8) &&& 255)) 0 1 15) 1 15 ((iushr d 0) &&& 255)) 0 1 16) 1 16 ((iushr e 24) &&& 255)) 0 1 17) 1 17 ((iushr e 16) &&& 255)) 0 1 18) 1 18 ((iushr e 8) &&& 255)) 0 1 19) 1 19 ((iushr e 0) &&& 255)) gs31 (wI M6 1 19 ((iushr e 0) &&& 255)) := cw_I h6 (by decide)
  generalize (wI M6 1 19 ((iushr e 0) &&& 255)) = M7 at h7 ⊢
  refine a_aload_n dX10_putBytes_33 rfl rfl ?_
  refine a_dup dX10_putBytes_34 rfl ?_
  refine a_get (v := .int 19) dX10_putBytes_35 fl_10_112 (cw_l h7 (by decide)) (cw_s h7 (by decide) rfl) (cw_gi h7 rfl (by decide) (by first | decide +kernel | rfl)) ?_
  refine a_iconst (v := 1) dX10_putBytes_38 (by decide) ?_
  refine a_iadd dX10_putBytes_39 ?_
  refine a_st (st2 := [.int 20, .ref 0]) (by decide +kernel) ?_
  refine a_putI dX10_putBytes_40 (Or.inl ⟨fl_10_112, Or.inl rfl⟩) rfl (cw_l h7 (by decide)) (cw_s h7 (by decide) rfl) rfl rfl ?_
  have h8 : Cw 126 Lj134 (up2 (up2 (up2 (up2 (up2 (up2 (up2 (up2 (up2 (up2 (up2 (up2 (up2 (up2 (up2 (up2 (up2 (up2 (up2 (up2 (up2 (up2 (up2 (up2 (up2 (up2 (up2 (up2 (up2 (up2 (up2 (up2 (up2 (up2 (up2 (up2 (up2 (up2 (up2 (up2 fs42 1 0 ((iushr a 24) &&& 255)) 0 1 1) 1 1 ((iushr a 16) &&& 255)) 0 1 2) 1 2 ((iushr a 8) &&& 255)) 0 1 3) 1 3 ((iushr a 0) &&& 255)) 0 1 4) 1 4 ((iushr b 24) &&& 255)) 0 1 5) 1 5 ((iushr b 16) &&& 255)) 0 1 6) 1 6 ((iushr b 8) &&& 255)) 0 1 7) 1 7 ((iushr b 0) &&& 255)) 0 1 8) 1 8 ((iushr c 24) &&& 255)) 0 1 9) 1 9 ((iushr c 16) &&& 255)) 0 1 10) 1 10 ((iushr c 8) &&& 255)) 0 1 11) 1 11 ((iushr c 0) &&& 255)) 0 1 12) 1 12 ((iushr d 24) &&& 255)) 0 1 13) 1 13 ((iushr d 16) &&& 255)) 0 1 14) 1 14 ((iushr d 8) &&& 255)) 0 1 15) 1 15 ((iushr d 0) &&& 255)) 0 1 16) 1 16 ((iushr e 24) &&& 255)) 0 1 17) 1 17 ((iushr e 16) &&& 255)) 0 1 18) 1 18 ((iushr e 8) &&& 255)) 0 1 19) 1 19 ((iushr e 0) &&& 255)) 0 1 20) gs31 (wI M7 0 1 20) := cw_I h7 (by decide)
  generalize (wI M7 0 1 20) = M8 at h8 ⊢
  refine a_iinc (v := (-8)) dX10_putBytes_43 rfl (by decide) (Nat.le_of_ble_eq_true rfl) (lv2 := [(2, .int (-8)), (0, .ref 0), (1, .int e)]) rfl ?_
  refine a_goto 3 dX10_putBytes_46 (by decide) ?_
  refine a_iload_n dX10_putBytes_3 rfl rfl ?_
  refine a_if_lt 49 dX10_putBytes_4 (by decide) (fun _ => ?_) (fun c => absurd (by decide) c)
  exact a_vret dX10_putBytes_49 rfl ⟨rfl, h8⟩
set_option maxHeartbeats 4000000 in
set_option maxRecDepth 100000 in
theorem p_feed {X : Nat × (Nat → Int32)} {fr : Nat} {M : Mem} (a : Int32) (b : Int32) (c : Int32) (d : Int32) (e : Int32) (h0 : Cw 126 Lj134 fs42 gs31 M) : AM yX10_feed cX10_feed 6 (some .int) true (fr + 8) 0 0 X [.ref 0, .int a, .int b, .int c, .int d, .int e] M (fun v M1 => v = some (.int 20) ∧ Fm M1) := by
  refine AM.of false (by decide +kernel) (by intro h; cases h) (Nat.le_of_ble_eq_true rfl) ?_
  show AW X (RX10, cX10_feed, 6, (some .int), false, true, fr + 8) 0 0 0 [(0, .ref 0), (1, .int a), (2, .int b), (3, .int c), (4, .int d), (5, .int e)] [] M _
  refine a_aload_n dX10_feed_0 rfl rfl ?_
  refine a_get (v := .int 0) dX10_feed_1 fl_10_112 (cw_l h0 (by decide)) (cw_s h0 (by decide) rfl) (cw_gi h0 rfl (by decide) (by first | decide +kernel | rfl)) ?_
  refine a_bipush (v := 20) dX10_feed_4 (by decide) ?_
  refine a_iadd dX10_feed_6 ?_
  refine a_st (st2 := [.int 20]) (by decide +kernel) ?_
  refine a_sipush (v := 600) dX10_feed_7 (by decide) ?_
  refine a_icmp_le 16 dX10_feed_10 (by decide) (fun _ => ?_) (fun c => absurd (by decide) c)
  refine a_aload_n dX10_feed_16 rfl rfl ?_
  refine a_iload_n dX10_feed_17 rfl rfl ?_
  refine a_callV (As := [.int a]) (st := []) (a := 0) (ci := 10) (bc := 0) (bs := 0) (mc := 0) (ms := 0) false dX10_feed_18 mw_X10_putBytes rfl (Or.inl ⟨rfl, ml_X10_115⟩) im_X10_putBytes se_X10_putBytes (by decide) (cw_l h0 (by decide)) (cw_s h0 (by decide) rfl) rfl (Nat.le_of_ble_eq_true rfl) (z1_X10_putBytes (fr := fr) a b c d e h0) (fun v M1 hq => ?_)
  obtain ⟨rfl, h1⟩ := hq
  refine a_aload_n dX10_feed_21 rfl rfl ?_
  refine a_iload_n dX10_feed_22 rfl rfl ?_
  refine a_callV (As := [.int b]) (st := []) (a := 0) (ci := 10) (bc := 0) (bs := 0) (mc := 0) (ms := 0) false dX10_feed_23 mw_X10_putBytes rfl (Or.inl ⟨rfl, ml_X10_115⟩) im_X10_putBytes se_X10_putBytes (by decide) (cw_l h1 (by decide)) (cw_s h1 (by decide) rfl) rfl (Nat.le_of_ble_eq_true rfl) (z2_X10_putBytes (fr := fr) a b c d e h1) (fun v M2 hq => ?_)
  obtain ⟨rfl, h2⟩ := hq
  refine a_aload_n dX10_feed_26 rfl rfl ?_
  refine a_iload_n dX10_feed_27 rfl rfl ?_
  refine a_callV (As := [.int c]) (st := []) (a := 0) (ci := 10) (bc := 0) (bs := 0) (mc := 0) (ms := 0) false dX10_feed_28 mw_X10_putBytes rfl (Or.inl ⟨rfl, ml_X10_115⟩) im_X10_putBytes se_X10_putBytes (by decide) (cw_l h2 (by decide)) (cw_s h2 (by decide) rfl) rfl (Nat.le_of_ble_eq_true rfl) (z3_X10_putBytes (fr := fr) a b c d e h2) (fun v M3 hq => ?_)
  obtain ⟨rfl, h3⟩ := hq
  refine a_aload_n dX10_feed_31 rfl rfl ?_
  refine a_iload dX10_feed_32 rfl ?_
  refine a_callV (As := [.int d]) (st := []) (a := 0) (ci := 10) (bc := 0) (bs := 0) (mc := 0) (ms := 0) false dX10_feed_34 mw_X10_putBytes rfl (Or.inl ⟨rfl, ml_X10_115⟩) im_X10_putBytes se_X10_putBytes (by decide) (cw_l h3 (by decide)) (cw_s h3 (by decide) rfl) rfl (Nat.le_of_ble_eq_true rfl) (z4_X10_putBytes (fr := fr) a b c d e h3) (fun v M4 hq => ?_)
  obtain ⟨rfl, h4⟩ := hq
  refine a_aload_n dX10_feed_37 rfl rfl ?_
  refine a_iload dX10_feed_38 rfl ?_
  refine a_callV (As := [.int e]) (st := []) (a := 0) (ci := 10) (bc := 0) (bs := 0) (mc := 0) (ms := 0) false dX10_feed_40 mw_X10_putBytes rfl (Or.inl ⟨rfl, ml_X10_115⟩) im_X10_putBytes se_X10_putBytes (by decide) (cw_l h4 (by decide)) (cw_s h4 (by decide) rfl) rfl (Nat.le_of_ble_eq_true rfl) (z5_X10_putBytes (fr := fr) a b c d e h4) (fun v M5 hq => ?_)
  obtain ⟨rfl, h5⟩ := hq
  refine a_aload_n dX10_feed_43 rfl rfl ?_
  refine a_get (v := .int 20) dX10_feed_44 fl_10_112 (cw_l h5 (by decide)) (cw_s h5 (by decide) rfl) (cw_gi h5 rfl (by decide) (by first | decide +kernel | rfl)) ?_
  exact a_iret dX10_feed_47 rfl ⟨by first | rfl | decide +kernel | simp [*], fm_of h5 (fun a k ha => by first | rfl | (repeat rw [up2_a _ _ _ _ (by omega)]))⟩
set_option maxHeartbeats 4000000 in
set_option maxRecDepth 100000 in
theorem z6_X10_tapeLacks {X : Nat × (Nat → Int32)} {fr : Nat} {M : Mem}  (h0 : Cw 126 Lj134 fs42 gs31 M) : AM yX10_tapeLacks cX10_tapeLacks 2 (some .boolean) true (fr + 7) 0 0 X [.ref 0, .int 0] M (fun v M1 => v = some (.int 0) ∧ Cw 126 Lj134 fs42 gs31 M1) := by
  refine AM.of false (by decide +kernel) (by intro h; cases h) (Nat.le_of_ble_eq_true rfl) ?_
  show AW X (RX10, cX10_tapeLacks, 2, (some .boolean), false, true, fr + 7) 0 0 0 [(0, .ref 0), (1, .int 0)] [] M _
  refine a_iload_n dX10_tapeLacks_0 rfl rfl ?_
  refine a_if_lt 12 dX10_tapeLacks_1 (by decide) (fun c => absurd c (by decide)) (fun _ => ?_)
  refine a_iload_n dX10_tapeLacks_4 rfl rfl ?_
  refine a_aload_n dX10_tapeLacks_5 rfl rfl ?_
  refine a_get (v := .int 0) dX10_tapeLacks_6 fl_10_112 (cw_l h0 (by decide)) (cw_s h0 (by decide) rfl) (cw_gi h0 rfl (by decide) (by first | decide +kernel | rfl)) ?_
  refine a_icmp_le 16 dX10_tapeLacks_9 (by decide) (fun _ => ?_) (fun c => absurd (by decide) c)
  refine a_iconst (v := 0) dX10_tapeLacks_16 (by decide) ?_
  exact a_zret dX10_tapeLacks_17 rfl (by decide) ⟨rfl, h0⟩
set_option maxHeartbeats 4000000 in
set_option maxRecDepth 100000 in
theorem z8_X6_begin {X : Nat × (Nat → Int32)} {fr : Nat} {M : Mem}  (h0 : Cw 126 Lj134 (up2 fs42 0 1 0) gs31 M) : AM yX6_begin cX6_begin 2 none true (fr + 6) 0 0 X [.ref 14, .int 0] M (fun v M1 => v = none ∧ Cw 126 Lj134 (up2 (up2 (up2 (up2 (up2 fs42 0 1 0) 14 10 0) 14 11 0) 14 17 0) 14 18 (-1)) gs31 M1) := by
  refine AM.of false (by decide +kernel) (by intro h; cases h) (Nat.le_of_ble_eq_true rfl) ?_
  show AW X (RX6, cX6_begin, 2, none, false, true, fr + 6) 0 0 0 [(0, .ref 14), (1, .int 0)] [] M _
  refine a_aload_n dX6_begin_0 rfl rfl ?_
  refine a_iload_n dX6_begin_1 rfl rfl ?_
  refine a_aload_n dX6_begin_2 rfl rfl ?_
  refine a_get (v := .ref 1) dX6_begin_3 fl_6_43 (cw_l h0 (by decide)) (cw_s h0 (by decide) rfl) (cw_g h0 rfl (by decide +kernel)) ?_
  refine a_alen (v := 600) (by decide) dX6_begin_6 (cw_l h0 (by decide)) (cw_s h0 (by decide) rfl) (by decide) ?_
  refine a_mmin dX6_begin_7 mm_X6_54 mmin_s ini_Math mmin_c (Nat.le_add_left 1 (fr + 5)) (Nat.le_of_ble_eq_true rfl) ?_
  refine a_st (st2 := [.int 0, .ref 14]) (by decide +kernel) ?_
  refine a_putI dX6_begin_10 (Or.inl ⟨fl_6_59, Or.inl rfl⟩) rfl (cw_l h0 (by decide)) (cw_s h0 (by decide) rfl) rfl rfl ?_
  have h1 : Cw 126 Lj134 (up2 (up2 fs42 0 1 0) 14 10 0) gs31 (wI M 14 10 0) := cw_I h0 (by decide)
  generalize (wI M 14 10 0) = M1 at h1 ⊢
  refine a_aload_n dX6_begin_13 rfl rfl ?_
  refine a_iconst (v := 0) dX6_begin_14 (by decide) ?_
  refine a_putI dX6_begin_15 (Or.inl ⟨fl_6_62, Or.inl rfl⟩) rfl (cw_l h1 (by decide)) (cw_s h1 (by decide) rfl) rfl rfl ?_
  have h2 : Cw 126 Lj134 (up2 (up2 (up2 fs42 0 1 0) 14 10 0) 14 11 0) gs31 (wI M1 14 11 0) := cw_I h1 (by decide)
  generalize (wI M1 14 11 0) = M2 at h2 ⊢
  refine a_aload_n dX6_begin_18 rfl rfl ?_
  refine a_iconst (v := 0) dX6_begin_19 (by decide) ?_
  refine a_putI dX6_begin_20 (Or.inl ⟨fl_6_65, Or.inl rfl⟩) rfl (cw_l h2 (by decide)) (cw_s h2 (by decide) rfl) rfl rfl ?_
  have h3 : Cw 126 Lj134 (up2 (up2 (up2 (up2 fs42 0 1 0) 14 10 0) 14 11 0) 14 17 0) gs31 (wI M2 14 17 0) := cw_I h2 (by decide)
  generalize (wI M2 14 17 0) = M3 at h3 ⊢
  refine a_aload_n dX6_begin_23 rfl rfl ?_
  refine a_iconst (v := (-1)) dX6_begin_24 (by decide) ?_
  refine a_putI dX6_begin_25 (Or.inl ⟨fl_6_35, Or.inl rfl⟩) rfl (cw_l h3 (by decide)) (cw_s h3 (by decide) rfl) rfl rfl ?_
  have h4 : Cw 126 Lj134 (up2 (up2 (up2 (up2 (up2 fs42 0 1 0) 14 10 0) 14 11 0) 14 17 0) 14 18 (-1)) gs31 (wI M3 14 18 (-1)) := cw_I h3 (by decide)
  generalize (wI M3 14 18 (-1)) = M4 at h4 ⊢
  exact a_vret dX6_begin_28 rfl ⟨rfl, h4⟩
set_option maxHeartbeats 4000000 in
set_option maxRecDepth 100000 in
theorem z9_X2_clear {X : Nat × (Nat → Int32)} {fr : Nat} {M : Mem}  (h0 : Cw 126 Lj134 (up2 (up2 (up2 (up2 (up2 fs42 0 1 0) 14 10 0) 14 11 0) 14 17 0) 14 18 (-1)) gs31 M) : AM yX2_clear cX2_clear 1 none true (fr + 6) 0 0 X [.ref 16] M (fun v M1 => v = none ∧ Cw 126 Lj134 (up2 (up2 (up2 (up2 (up2 (up2 fs42 0 1 0) 14 10 0) 14 11 0) 14 17 0) 14 18 (-1)) 16 3 0) gs31 M1) := by
  refine AM.of false (by decide +kernel) (by intro h; cases h) (Nat.le_of_ble_eq_true rfl) ?_
  show AW X (RX2, cX2_clear, 1, none, false, true, fr + 6) 0 0 0 [(0, .ref 16)] [] M _
  refine a_aload_n dX2_clear_0 rfl rfl ?_
  refine a_iconst (v := 0) dX2_clear_1 (by decide) ?_
  refine a_putI dX2_clear_2 (Or.inl ⟨fl_2_21, Or.inl rfl⟩) rfl (cw_l h0 (by decide)) (cw_s h0 (by decide) rfl) rfl rfl ?_
  have h1 : Cw 126 Lj134 (up2 (up2 (up2 (up2 (up2 (up2 fs42 0 1 0) 14 10 0) 14 11 0) 14 17 0) 14 18 (-1)) 16 3 0) gs31 (wI M 16 3 0) := cw_I h0 (by decide)
  generalize (wI M 16 3 0) = M1 at h1 ⊢
  exact a_vret dX2_clear_5 rfl ⟨rfl, h1⟩
set_option maxHeartbeats 4000000 in
set_option maxRecDepth 100000 in
theorem z10_X6_advance {X : Nat × (Nat → Int32)} {fr : Nat} {M : Mem}  (h0 : Cw 126 Lj134 (up2 (up2 (up2 (up2 (up2 (up2 fs42 0 1 0) 14 10 0) 14 11 0) 14 17 0) 14 18 (-1)) 16 3 0) gs31 M) : AM yX6_advance cX6_advance 1 none true (fr + 6) 0 0 X [.ref 14] M (fun v M1 => v = none ∧ Cw 126 Lj134 (up2 (up2 (up2 (up2 (up2 (up2 (up2 (up2 (up2 fs42 0 1 0) 14 10 0) 14 11 0) 14 17 0) 14 18 (-1)) 16 3 0) 14 12 0) 14 12 0) 14 13 (-3)) (up2 gs31 14 14 0) M1) := by
  refine AM.of false (by decide +kernel) (by intro h; cases h) (Nat.le_of_ble_eq_true rfl) ?_
  show AW X (RX6, cX6_advance, 1, none, false, true, fr + 6) 0 0 0 [(0, .ref 14)] [] M _
  refine a_aload_n dX6_advance_0 rfl rfl ?_
  refine a_get (v := .int 0) dX6_advance_1 fl_6_62 (cw_l h0 (by decide)) (cw_s h0 (by decide) rfl) (cw_gi h0 rfl (by decide) (by first | decide +kernel | rfl)) ?_
  refine a_aload_n dX6_advance_4 rfl rfl ?_
  refine a_get (v := .int 0) dX6_advance_5 fl_6_59 (cw_l h0 (by decide)) (cw_s h0 (by decide) rfl) (cw_gi h0 rfl (by decide) (by first | decide +kernel | rfl)) ?_
  refine a_icmp_ge 38 dX6_advance_8 (by decide) (fun _ => ?_) (fun c => absurd (by decide) c)
  refine a_aload_n dX6_advance_38 rfl rfl ?_
  refine a_aload_n dX6_advance_39 rfl rfl ?_
  refine a_get (v := .int 0) dX6_advance_40 fl_6_62 (cw_l h0 (by decide)) (cw_s h0 (by decide) rfl) (cw_gi h0 rfl (by decide) (by first | decide +kernel | rfl)) ?_
  refine a_putI dX6_advance_43 (Or.inl ⟨fl_6_68, Or.inl rfl⟩) rfl (cw_l h0 (by decide)) (cw_s h0 (by decide) rfl) rfl rfl ?_
  have h1 : Cw 126 Lj134 (up2 (up2 (up2 (up2 (up2 (up2 (up2 fs42 0 1 0) 14 10 0) 14 11 0) 14 17 0) 14 18 (-1)) 16 3 0) 14 12 0) gs31 (wI M 14 12 0) := cw_I h0 (by decide)
  generalize (wI M 14 12 0) = M1 at h1 ⊢
  refine a_aload_n dX6_advance_46 rfl rfl ?_
  refine a_lconst (v := 0) dX6_advance_47 (by decide) ?_
  refine a_putJ dX6_advance_48 (Or.inl ⟨fl_6_71, Or.inl rfl⟩) rfl (cw_l h1 (by decide)) (cw_s h1 (by decide) rfl) ?_
  have h2 : Cw 126 Lj134 (up2 (up2 (up2 (up2 (up2 (up2 (up2 fs42 0 1 0) 14 10 0) 14 11 0) 14 17 0) 14 18 (-1)) 16 3 0) 14 12 0) (up2 gs31 14 14 0) (wJ M1 14 14 0) := cw_J h1 (by decide)
  generalize (wJ M1 14 14 0) = M2 at h2 ⊢
  refine a_aload_n dX6_advance_51 rfl rfl ?_
  refine a_get (v := .int 0) dX6_advance_52 fl_6_62 (cw_l h2 (by decide)) (cw_s h2 (by decide) rfl) (cw_gi h2 rfl (by decide) (by first | decide +kernel | rfl)) ?_
  refine a_aload_n dX6_advance_55 rfl rfl ?_
  refine a_get (v := .int 0) dX6_advance_56 fl_6_59 (cw_l h2 (by decide)) (cw_s h2 (by decide) rfl) (cw_gi h2 rfl (by decide) (by first | decide +kernel | rfl)) ?_
  refine a_icmp_lt 77 dX6_advance_59 (by decide) (fun c => absurd c (by decide)) (fun _ => ?_)
  refine a_aload_n dX6_advance_62 rfl rfl ?_
  refine a_aload_n dX6_advance_63 rfl rfl ?_
  refine a_get (v := .int 0) dX6_advance_64 fl_6_59 (cw_l h2 (by decide)) (cw_s h2 (by decide) rfl) (cw_gi h2 rfl (by decide) (by first | decide +kernel | rfl)) ?_
  refine a_putI dX6_advance_67 (Or.inl ⟨fl_6_68, Or.inl rfl⟩) rfl (cw_l h2 (by decide)) (cw_s h2 (by decide) rfl) rfl rfl ?_
  have h3 : Cw 126 Lj134 (up2 (up2 (up2 (up2 (up2 (up2 (up2 (up2 fs42 0 1 0) 14 10 0) 14 11 0) 14 17 0) 14 18 (-1)) 16 3 0) 14 12 0) 14 12 0) (up2 gs31 14 14 0) (wI M2 14 12 0) := cw_I h2 (by decide)
  generalize (wI M2 14 12 0) = M3 at h3 ⊢
  refine a_aload_n dX6_advance_70 rfl rfl ?_
  refine a_bipush (v := (-3)) dX6_advance_71 (by decide) ?_
  refine a_putI dX6_advance_73 (Or.inl ⟨fl_6_75, Or.inl rfl⟩) rfl (cw_l h3 (by decide)) (cw_s h3 (by decide) rfl) rfl rfl ?_
  have h4 : Cw 126 Lj134 (up2 (up2 (up2 (up2 (up2 (up2 (up2 (up2 (up2 fs42 0 1 0) 14 10 0) 14 11 0) 14 17 0) 14 18 (-1)) 16 3 0) 14 12 0) 14 12 0) 14 13 (-3)) (up2 gs31 14 14 0) (wI M3 14 13 (-3)) := cw_I h3 (by decide)
  generalize (wI M3 14 13 (-3)) = M4 at h4 ⊢
  exact a_vret dX6_advance_76 rfl ⟨rfl, h4⟩
set_option maxHeartbeats 4000000 in
set_option maxRecDepth 100000 in
theorem z7_X6_readHypotheses {X : Nat × (Nat → Int32)} {fr : Nat} {M : Mem}  (h0 : Cw 126 Lj134 (up2 fs42 0 1 0) gs31 M) : AM yX6_readHypotheses cX6_readHypotheses 3 (some .boolean) true (fr + 7) 0 0 X [.ref 14, .int 0] M (fun v M1 => v = some (.int 1) ∧ Cw 126 Lj134 (up2 (up2 (up2 (up2 (up2 (up2 (up2 (up2 (up2 fs42 0 1 0) 14 10 0) 14 11 0) 14 17 0) 14 18 (-1)) 16 3 0) 14 12 0) 14 12 0) 14 13 (-3)) (up2 gs31 14 14 0) M1) := by
  refine AM.of false (by decide +kernel) (by intro h; cases h) (Nat.le_of_ble_eq_true rfl) ?_
  show AW X (RX6, cX6_readHypotheses, 3, (some .boolean), false, true, fr + 7) 0 0 0 [(0, .ref 14), (1, .int 0)] [] M _
  refine a_aload_n dX6_readHypotheses_0 rfl rfl ?_
  refine a_iload_n dX6_readHypotheses_1 rfl rfl ?_
  refine a_callV (As := [.int 0]) (st := []) (a := 14) (ci := 6) (bc := 0) (bs := 0) (mc := 0) (ms := 0) false dX6_readHypotheses_2 mw_X6_begin rfl (Or.inl ⟨rfl, ml_X6_90⟩) im_X6_begin se_X6_begin (by decide) (cw_l h0 (by decide)) (cw_s h0 (by decide) rfl) rfl (Nat.le_of_ble_eq_true rfl) (z8_X6_begin (fr := fr)  h0) (fun v M1 hq => ?_)
  obtain ⟨rfl, h1⟩ := hq
  refine a_aload_n dX6_readHypotheses_5 rfl rfl ?_
  refine a_get (v := .ref 16) dX6_readHypotheses_6 fl_6_18 (cw_l h1 (by decide)) (cw_s h1 (by decide) rfl) (cw_g h1 rfl (by decide +kernel)) ?_
  refine a_callV (As := []) (st := []) (a := 16) (ci := 2) (bc := 0) (bs := 0) (mc := 0) (ms := 0) false dX6_readHypotheses_9 mw_X2_clear rfl (Or.inl ⟨rfl, ml_X6_94⟩) im_X2_clear se_X2_clear (by decide) (cw_l h1 (by decide)) (cw_s h1 (by decide) rfl) rfl (Nat.le_of_ble_eq_true rfl) (z9_X2_clear (fr := fr)  h1) (fun v M2 hq => ?_)
  obtain ⟨rfl, h2⟩ := hq
  refine a_iconst (v := 0) dX6_readHypotheses_12 (by decide) ?_
  refine a_istore_n dX6_readHypotheses_13 rfl (Nat.le_of_ble_eq_true rfl) (lv2 := [(2, .int 0), (0, .ref 14), (1, .int 0)]) rfl ?_
  refine a_iload_n dX6_readHypotheses_14 rfl rfl ?_
  refine a_bipush (v := 6) dX6_readHypotheses_15 (by decide) ?_
  refine a_icmp_gt 50 dX6_readHypotheses_17 (by decide) (fun c => absurd c (by decide)) (fun _ => ?_)
  refine a_aload_n dX6_readHypotheses_20 rfl rfl ?_
  refine a_callV (As := []) (st := []) (a := 14) (ci := 6) (bc := 0) (bs := 0) (mc := 0) (ms := 0) false dX6_readHypotheses_21 mw_X6_advance rfl (Or.inl ⟨rfl, ml_X6_97⟩) im_X6_advance se_X6_advance (by decide) (cw_l h2 (by decide)) (cw_s h2 (by decide) rfl) rfl (Nat.le_of_ble_eq_true rfl) (z10_X6_advance (fr := fr)  h2) (fun v M3 hq => ?_)
  obtain ⟨rfl, h3⟩ := hq
  refine a_aload_n dX6_readHypotheses_24 rfl rfl ?_
  refine a_get (v := .int (-3)) dX6_readHypotheses_25 fl_6_75 (cw_l h3 (by decide)) (cw_s h3 (by decide) rfl) (cw_gi h3 rfl (by decide) (by first | decide +kernel | rfl)) ?_
  refine a_bipush (v := (-3)) dX6_readHypotheses_28 (by decide) ?_
  refine a_icmp_ne 35 dX6_readHypotheses_30 (by decide) (fun c => absurd (by decide) c) (fun _ => ?_)
  refine a_iconst (v := 1) dX6_readHypotheses_33 (by decide) ?_
  exact a_zret dX6_readHypotheses_34 rfl (by decide) ⟨rfl, h3⟩
set_option maxHeartbeats 4000000 in
set_option maxRecDepth 100000 in
theorem z12_X2_clear {X : Nat × (Nat → Int32)} {fr : Nat} {M : Mem}  (h0 : Cw 126 Lj134 (up2 (up2 (up2 (up2 (up2 (up2 (up2 (up2 (up2 fs42 0 1 0) 14 10 0) 14 11 0) 14 17 0) 14 18 (-1)) 16 3 0) 14 12 0) 14 12 0) 14 13 (-3)) (up2 gs31 14 14 0) M) : AM yX2_clear cX2_clear 1 none true (fr + 6) 0 0 X [.ref 10] M (fun v M1 => v = none ∧ Cw 126 Lj134 (up2 (up2 (up2 (up2 (up2 (up2 (up2 (up2 (up2 (up2 fs42 0 1 0) 14 10 0) 14 11 0) 14 17 0) 14 18 (-1)) 16 3 0) 14 12 0) 14 12 0) 14 13 (-3)) 10 3 0) (up2 gs31 14 14 0) M1) := by
  refine AM.of false (by decide +kernel) (by intro h; cases h) (Nat.le_of_ble_eq_true rfl) ?_
  show AW X (RX2, cX2_clear, 1, none, false, true, fr + 6) 0 0 0 [(0, .ref 10)] [] M _
  refine a_aload_n dX2_clear_0 rfl rfl ?_
  refine a_iconst (v := 0) dX2_clear_1 (by decide) ?_
  refine a_putI dX2_clear_2 (Or.inl ⟨fl_2_21, Or.inl rfl⟩) rfl (cw_l h0 (by decide)) (cw_s h0 (by decide) rfl) rfl rfl ?_
  have h1 : Cw 126 Lj134 (up2 (up2 (up2 (up2 (up2 (up2 (up2 (up2 (up2 (up2 fs42 0 1 0) 14 10 0) 14 11 0) 14 17 0) 14 18 (-1)) 16 3 0) 14 12 0) 14 12 0) 14 13 (-3)) 10 3 0) (up2 gs31 14 14 0) (wI M 10 3 0) := cw_I h0 (by decide)
  generalize (wI M 10 3 0) = M1 at h1 ⊢
  exact a_vret dX2_clear_5 rfl ⟨rfl, h1⟩
set_option maxHeartbeats 4000000 in
set_option maxRecDepth 100000 in
theorem z11_X2_takeOver {X : Nat × (Nat → Int32)} {fr : Nat} {M : Mem}  (h0 : Cw 126 Lj134 (up2 (up2 (up2 (up2 (up2 (up2 (up2 (up2 (up2 fs42 0 1 0) 14 10 0) 14 11 0) 14 17 0) 14 18 (-1)) 16 3 0) 14 12 0) 14 12 0) 14 13 (-3)) (up2 gs31 14 14 0) M) : AM yX2_takeOver cX2_takeOver 3 none true (fr + 7) 0 0 X [.ref 10, .ref 16] M (fun v M1 => v = none ∧ Cw 126 Lj134 (up2 (up2 (up2 (up2 (up2 (up2 (up2 (up2 (up2 (up2 fs42 0 1 0) 14 10 0) 14 11 0) 14 17 0) 14 18 (-1)) 16 3 0) 14 12 0) 14 12 0) 14 13 (-3)) 10 3 0) (up2 gs31 14 14 0) M1) := by
  refine AM.of false (by decide +kernel) (by intro h; cases h) (Nat.le_of_ble_eq_true rfl) ?_
  show AW X (RX2, cX2_takeOver, 3, none, false, true, fr + 7) 0 0 0 [(0, .ref 10), (1, .ref 16)] [] M _
  refine a_aload_n dX2_takeOver_0 rfl rfl ?_
  refine a_callV (As := []) (st := []) (a := 10) (ci := 2) (bc := 0) (bs := 0) (mc := 0) (ms := 0) false dX2_takeOver_1 mw_X2_clear rfl (Or.inl ⟨rfl, ml_X2_25⟩) im_X2_clear se_X2_clear (by decide) (cw_l h0 (by decide)) (cw_s h0 (by decide) rfl) rfl (Nat.le_of_ble_eq_true rfl) (z12_X2_clear (fr := fr)  h0) (fun v M1 hq => ?_)
  obtain ⟨rfl, h1⟩ := hq
  refine a_iconst (v := 0) dX2_takeOver_4 (by decide) ?_
  refine a_istore_n dX2_takeOver_5 rfl (Nat.le_of_ble_eq_true rfl) (lv2 := [(2, .int 0), (0, .ref 10), (1, .ref 16)]) rfl ?_
  refine a_iload_n dX2_takeOver_6 rfl rfl ?_
  refine a_aload_n dX2_takeOver_7 rfl rfl ?_
  refine a_get (v := .int 0) dX2_takeOver_8 fl_2_21 (cw_l h1 (by decide)) (cw_s h1 (by decide) rfl) (cw_gi h1 rfl (by decide) (by first | decide +kernel | rfl)) ?_
  refine a_icmp_ge 48 dX2_takeOver_11 (by decide) (fun _ => ?_) (fun c => absurd (by decide) c)
  exact a_vret dX2_takeOver_48 rfl ⟨rfl, h1⟩
set_option maxHeartbeats 4000000 in
set_option maxRecDepth 100000 in
theorem z13_X9_clear {X : Nat × (Nat → Int32)} {fr : Nat} {M : Mem}  (h0 : Cw 126 Lj134 (up2 (up2 (up2 (up2 (up2 (up2 (up2 (up2 (up2 (up2 fs42 0 1 0) 14 10 0) 14 11 0) 14 17 0) 14 18 (-1)) 16 3 0) 14 12 0) 14 12 0) 14 13 (-3)) 10 3 0) (up2 gs31 14 14 0) M) : AM yX9_clear cX9_clear 1 none true (fr + 7) 0 0 X [.ref 25] M (fun v M1 => v = none ∧ Cw 126 Lj134 (up2 (up2 (up2 (up2 (up2 (up2 (up2 (up2 (up2 (up2 (up2 (up2 fs42 0 1 0) 14 10 0) 14 11 0) 14 17 0) 14 18 (-1)) 16 3 0) 14 12 0) 14 12 0) 14 13 (-3)) 10 3 0) 25 2 0) 25 3 0) (up2 gs31 14 14 0) M1) := by
  refine AM.of false (by decide +kernel) (by intro h; cases h) (Nat.le_of_ble_eq_true rfl) ?_
  show AW X (RX9, cX9_clear, 1, none, false, true, fr + 7) 0 0 0 [(0, .ref 25)] [] M _
  refine a_aload_n dX9_clear_0 rfl rfl ?_
  refine a_iconst (v := 0) dX9_clear_1 (by decide) ?_
  refine a_putI dX9_clear_2 (Or.inl ⟨fl_9_18, Or.inl rfl⟩) rfl (cw_l h0 (by decide)) (cw_s h0 (by decide) rfl) rfl rfl ?_
  have h1 : Cw 126 Lj134 (up2 (up2 (up2 (up2 (up2 (up2 (up2 (up2 (up2 (up2 (up2 fs42 0 1 0) 14 10 0) 14 11 0) 14 17 0) 14 18 (-1)) 16 3 0) 14 12 0) 14 12 0) 14 13 (-3)) 10 3 0) 25 2 0) (up2 gs31 14 14 0) (wI M 25 2 0) := cw_I h0 (by decide)
  generalize (wI M 25 2 0) = M1 at h1 ⊢
  refine a_aload_n dX9_clear_5 rfl rfl ?_
  refine a_iconst (v := 0) dX9_clear_6 (by decide) ?_
  refine a_putI dX9_clear_7 (Or.inl ⟨fl_9_22, Or.inl rfl⟩) rfl (cw_l h1 (by decide)) (cw_s h1 (by decide) rfl) rfl rfl ?_
  have h2 : Cw 126 Lj134 (up2 (up2 (up2 (up2 (up2 (up2 (up2 (up2 (up2 (up2 (up2 (up2 fs42 0 1 0) 14 10 0) 14 11 0) 14 17 0) 14 18 (-1)) 16 3 0) 14 12 0) 14 12 0) 14 13 (-3)) 10 3 0) 25 2 0) 25 3 0) (up2 gs31 14 14 0) (wI M1 25 3 0) := cw_I h1 (by decide)
  generalize (wI M1 25 3 0) = M2 at h2 ⊢
  exact a_vret dX9_clear_10 rfl ⟨rfl, h2⟩
set_option maxHeartbeats 4000000 in
set_option maxRecDepth 100000 in
theorem z14_X9_clear {X : Nat × (Nat → Int32)} {fr : Nat} {M : Mem}  (h0 : Cw 126 Lj134 (up2 (up2 (up2 (up2 (up2 (up2 (up2 (up2 (up2 (up2 (up2 (up2 fs42 0 1 0) 14 10 0) 14 11 0) 14 17 0) 14 18 (-1)) 16 3 0) 14 12 0) 14 12 0) 14 13 (-3)) 10 3 0) 25 2 0) 25 3 0) (up2 gs31 14 14 0) M) : AM yX9_clear cX9_clear 1 none true (fr + 7) 0 0 X [.ref 28] M (fun v M1 => v = none ∧ Cw 126 Lj134 (up2 (up2 (up2 (up2 (up2 (up2 (up2 (up2 (up2 (up2 (up2 (up2 (up2 (up2 fs42 0 1 0) 14 10 0) 14 11 0) 14 17 0) 14 18 (-1)) 16 3 0) 14 12 0) 14 12 0) 14 13 (-3)) 10 3 0) 25 2 0) 25 3 0) 28 2 0) 28 3 0) (up2 gs31 14 14 0) M1) := by
  refine AM.of false (by decide +kernel) (by intro h; cases h) (Nat.le_of_ble_eq_true rfl) ?_
  show AW X (RX9, cX9_clear, 1, none, false, true, fr + 7) 0 0 0 [(0, .ref 28)] [] M _
  refine a_aload_n dX9_clear_0 rfl rfl ?_
  refine a_iconst (v := 0) dX9_clear_1 (by decide) ?_
  refine a_putI dX9_clear_2 (Or.inl ⟨fl_9_18, Or.inl rfl⟩) rfl (cw_l h0 (by decide)) (cw_s h0 (by decide) rfl) rfl rfl ?_
  have h1 : Cw 126 Lj134 (up2 (up2 (up2 (up2 (up2 (up2 (up2 (up2 (up2 (up2 (up2 (up2 (up2 fs42 0 1 0) 14 10 0) 14 11 0) 14 17 0) 14 18 (-1)) 16 3 0) 14 12 0) 14 12 0) 14 13 (-3)) 10 3 0) 25 2 0) 25 3 0) 28 2 0) (up2 gs31 14 14 0) (wI M 28 2 0) := cw_I h0 (by decide)
  generalize (wI M 28 2 0) = M1 at h1 ⊢
  refine a_aload_n dX9_clear_5 rfl rfl ?_
  refine a_iconst (v := 0) dX9_clear_6 (by decide) ?_
  refine a_putI dX9_clear_7 (Or.inl ⟨fl_9_22, Or.inl rfl⟩) rfl (cw_l h1 (by decide)) (cw_s h1 (by decide) rfl) rfl rfl ?_
  have h2 : Cw 126 Lj134 (up2 (up2 (up2 (up2 (up2 (up2 (up2 (up2 (up2 (up2 (up2 (up2 (up2 (up2 fs42 0 1 0) 14 10 0) 14 11 0) 14 17 0) 14 18 (-1)) 16 3 0) 14 12 0) 14 12 0) 14 13 (-3)) 10 3 0) 25 2 0) 25 3 0) 28 2 0) 28 3 0) (up2 gs31 14 14 0) (wI M1 28 3 0) := cw_I h1 (by decide)
  generalize (wI M1 28 3 0) = M2 at h2 ⊢
  exact a_vret dX9_clear_10 rfl ⟨rfl, h2⟩
set_option maxHeartbeats 4000000 in
set_option maxRecDepth 100000 in
theorem z15_X9_clear {X : Nat × (Nat → Int32)} {fr : Nat} {M : Mem}  (h0 : Cw 126 Lj134 (up2 (up2 (up2 (up2 (up2 (up2 (up2 (up2 (up2 (up2 (up2 (up2 (up2 (up2 fs42 0 1 0) 14 10 0) 14 11 0) 14 17 0) 14 18 (-1)) 16 3 0) 14 12 0) 14 12 0) 14 13 (-3)) 10 3 0) 25 2 0) 25 3 0) 28 2 0) 28 3 0) (up2 gs31 14 14 0) M) : AM yX9_clear cX9_clear 1 none true (fr + 7) 0 0 X [.ref 31] M (fun v M1 => v = none ∧ Cw 126 Lj134 (up2 (up2 (up2 (up2 (up2 (up2 (up2 (up2 (up2 (up2 (up2 (up2 (up2 (up2 (up2 (up2 fs42 0 1 0) 14 10 0) 14 11 0) 14 17 0) 14 18 (-1)) 16 3 0) 14 12 0) 14 12 0) 14 13 (-3)) 10 3 0) 25 2 0) 25 3 0) 28 2 0) 28 3 0) 31 2 0) 31 3 0) (up2 gs31 14 14 0) M1) := by
  refine AM.of false (by decide +kernel) (by intro h; cases h) (Nat.le_of_ble_eq_true rfl) ?_
  show AW X (RX9, cX9_clear, 1, none, false, true, fr + 7) 0 0 0 [(0, .ref 31)] [] M _
  refine a_aload_n dX9_clear_0 rfl rfl ?_
  refine a_iconst (v := 0) dX9_clear_1 (by decide) ?_
  refine a_putI dX9_clear_2 (Or.inl ⟨fl_9_18, Or.inl rfl⟩) rfl (cw_l h0 (by decide)) (cw_s h0 (by decide) rfl) rfl rfl ?_
  have h1 : Cw 126 Lj134 (up2 (up2 (up2 (up2 (up2 (up2 (up2 (up2 (up2 (up2 (up2 (up2 (up2 (up2 (up2 fs42 0 1 0) 14 10 0) 14 11 0) 14 17 0) 14 18 (-1)) 16 3 0) 14 12 0) 14 12 0) 14 13 (-3)) 10 3 0) 25 2 0) 25 3 0) 28 2 0) 28 3 0) 31 2 0) (up2 gs31 14 14 0) (wI M 31 2 0) := cw_I h0 (by decide)
  generalize (wI M 31 2 0) = M1 at h1 ⊢
  refine a_aload_n dX9_clear_5 rfl rfl ?_
  refine a_iconst (v := 0) dX9_clear_6 (by decide) ?_
  refine a_putI dX9_clear_7 (Or.inl ⟨fl_9_22, Or.inl rfl⟩) rfl (cw_l h1 (by decide)) (cw_s h1 (by decide) rfl) rfl rfl ?_
  have h2 : Cw 126 Lj134 (up2 (up2 (up2 (up2 (up2 (up2 (up2 (up2 (up2 (up2 (up2 (up2 (up2 (up2 (up2 (up2 fs42 0 1 0) 14 10 0) 14 11 0) 14 17 0) 14 18 (-1)) 16 3 0) 14 12 0) 14 12 0) 14 13 (-3)) 10 3 0) 25 2 0) 25 3 0) 28 2 0) 28 3 0) 31 2 0) 31 3 0) (up2 gs31 14 14 0) (wI M1 31 3 0) := cw_I h1 (by decide)
  generalize (wI M1 31 3 0) = M2 at h2 ⊢
  exact a_vret dX9_clear_10 rfl ⟨rfl, h2⟩
set_option maxHeartbeats 4000000 in
set_option maxRecDepth 100000 in
theorem z16_X9_clear {X : Nat × (Nat → Int32)} {fr : Nat} {M : Mem}  (h0 : Cw 126 Lj134 (up2 (up2 (up2 (up2 (up2 (up2 (up2 (up2 (up2 (up2 (up2 (up2 (up2 (up2 (up2 (up2 fs42 0 1 0) 14 10 0) 14 11 0) 14 17 0) 14 18 (-1)) 16 3 0) 14 12 0) 14 12 0) 14 13 (-3)) 10 3 0) 25 2 0) 25 3 0) 28 2 0) 28 3 0) 31 2 0) 31 3 0) (up2 gs31 14 14 0) M) : AM yX9_clear cX9_clear 1 none true (fr + 7) 0 0 X [.ref 34] M (fun v M1 => v = none ∧ Cw 126 Lj134 (up2 (up2 (up2 (up2 (up2 (up2 (up2 (up2 (up2 (up2 (up2 (up2 (up2 (up2 (up2 (up2 (up2 (up2 fs42 0 1 0) 14 10 0) 14 11 0) 14 17 0) 14 18 (-1)) 16 3 0) 14 12 0) 14 12 0) 14 13 (-3)) 10 3 0) 25 2 0) 25 3 0) 28 2 0) 28 3 0) 31 2 0) 31 3 0) 34 2 0) 34 3 0) (up2 gs31 14 14 0) M1) := by
  refine AM.of false (by decide +kernel) (by intro h; cases h) (Nat.le_of_ble_eq_true rfl) ?_
  show AW X (RX9, cX9_clear, 1, none, false, true, fr + 7) 0 0 0 [(0, .ref 34)] [] M _
  refine a_aload_n dX9_clear_0 rfl rfl ?_
  refine a_iconst (v := 0) dX9_clear_1 (by decide) ?_
  refine a_putI dX9_clear_2 (Or.inl ⟨fl_9_18, Or.inl rfl⟩) rfl (cw_l h0 (by decide)) (cw_s h0 (by decide) rfl) rfl rfl ?_
  have h1 : Cw 126 Lj134 (up2 (up2 (up2 (up2 (up2 (up2 (up2 (up2 (up2 (up2 (up2 (up2 (up2 (up2 (up2 (up2 (up2 fs42 0 1 0) 14 10 0) 14 11 0) 14 17 0) 14 18 (-1)) 16 3 0) 14 12 0) 14 12 0) 14 13 (-3)) 10 3 0) 25 2 0) 25 3 0) 28 2 0) 28 3 0) 31 2 0) 31 3 0) 34 2 0) (up2 gs31 14 14 0) (wI M 34 2 0) := cw_I h0 (by decide)
  generalize (wI M 34 2 0) = M1 at h1 ⊢
  refine a_aload_n dX9_clear_5 rfl rfl ?_
  refine a_iconst (v := 0) dX9_clear_6 (by decide) ?_
  refine a_putI dX9_clear_7 (Or.inl ⟨fl_9_22, Or.inl rfl⟩) rfl (cw_l h1 (by decide)) (cw_s h1 (by decide) rfl) rfl rfl ?_
  have h2 : Cw 126 Lj134 (up2 (up2 (up2 (up2 (up2 (up2 (up2 (up2 (up2 (up2 (up2 (up2 (up2 (up2 (up2 (up2 (up2 (up2 fs42 0 1 0) 14 10 0) 14 11 0) 14 17 0) 14 18 (-1)) 16 3 0) 14 12 0) 14 12 0) 14 13 (-3)) 10 3 0) 25 2 0) 25 3 0) 28 2 0) 28 3 0) 31 2 0) 31 3 0) 34 2 0) 34 3 0) (up2 gs31 14 14 0) (wI M1 34 3 0) := cw_I h1 (by decide)
  generalize (wI M1 34 3 0) = M2 at h2 ⊢
  exact a_vret dX9_clear_10 rfl ⟨rfl, h2⟩
set_option maxHeartbeats 4000000 in
set_option maxRecDepth 100000 in
theorem p_hypotheses_0 {X : Nat × (Nat → Int32)} {fr : Nat} {M : Mem}  (h0 : Cw 126 Lj134 fs42 gs31 M) : AM yX10_hypotheses cX10_hypotheses 3 (some .int) true (fr + 8) 0 0 X [.ref 0, .int 0] M (fun v M1 => v = some (.int 0) ∧ Fm M1) := by
  refine AM.of false (by decide +kernel) (by intro h; cases h) (Nat.le_of_ble_eq_true rfl) ?_
  show AW X (RX10, cX10_hypotheses, 3, (some .int), false, true, fr + 8) 0 0 0 [(0, .ref 0), (1, .int 0)] [] M _
  refine a_aload_n dX10_hypotheses_0 rfl rfl ?_
  refine a_iload_n dX10_hypotheses_1 rfl rfl ?_
  refine a_callV (As := [.int 0]) (st := []) (a := 0) (ci := 10) (bc := 0) (bs := 0) (mc := 0) (ms := 0) false dX10_hypotheses_2 mw_X10_tapeLacks rfl (Or.inl ⟨rfl, ml_X10_119⟩) im_X10_tapeLacks se_X10_tapeLacks (by decide) (cw_l h0 (by decide)) (cw_s h0 (by decide) rfl) rfl (Nat.le_of_ble_eq_true rfl) (z6_X10_tapeLacks (fr := fr)  h0) (fun v M1 hq => ?_)
  obtain ⟨rfl, h1⟩ := hq
  show AW X _ 0 0 5 _ [.int 0] _ _
  refine a_if_eq 11 dX10_hypotheses_5 (by decide) (fun _ => ?_) (fun c => absurd (by decide) c)
  refine a_aload_n dX10_hypotheses_11 rfl rfl ?_
  refine a_iconst (v := 0) dX10_hypotheses_12 (by decide) ?_
  refine a_putI dX10_hypotheses_13 (Or.inl ⟨fl_10_112, Or.inl rfl⟩) rfl (cw_l h1 (by decide)) (cw_s h1 (by decide) rfl) rfl rfl ?_
  have h2 : Cw 126 Lj134 (up2 fs42 0 1 0) gs31 (wI M1 0 1 0) := cw_I h1 (by decide)
  generalize (wI M1 0 1 0) = M2 at h2 ⊢
  refine a_aload_n dX10_hypotheses_16 rfl rfl ?_
  refine a_get (v := .ref 14) dX10_hypotheses_17 fl_10_32 (cw_l h2 (by decide)) (cw_s h2 (by decide) rfl) (cw_g h2 rfl (by decide +kernel)) ?_
  refine a_iload_n dX10_hypotheses_20 rfl rfl ?_
  refine a_callV (As := [.int 0]) (st := []) (a := 14) (ci := 6) (bc := 0) (bs := 0) (mc := 0) (ms := 0) false dX10_hypotheses_21 mw_X6_readHypotheses rfl (Or.inl ⟨rfl, ml_X10_123⟩) im_X6_readHypotheses se_X6_readHypotheses (by decide) (cw_l h2 (by decide)) (cw_s h2 (by decide) rfl) rfl (Nat.le_of_ble_eq_true rfl) (z7_X6_readHypotheses (fr := fr)  h2) (fun v M3 hq => ?_)
  obtain ⟨rfl, h3⟩ := hq
  show AW X _ 0 0 24 _ [.int 1] _ _
  refine a_if_ne 38 dX10_hypotheses_24 (by decide) (fun _ => ?_) (fun c => absurd c (by decide))
  refine a_aload_n dX10_hypotheses_38 rfl rfl ?_
  refine a_get (v := .ref 10) dX10_hypotheses_39 fl_10_23 (cw_l h3 (by decide)) (cw_s h3 (by decide) rfl) (cw_g h3 rfl (by decide +kernel)) ?_
  refine a_aload_n dX10_hypotheses_42 rfl rfl ?_
  refine a_get (v := .ref 14) dX10_hypotheses_43 fl_10_32 (cw_l h3 (by decide)) (cw_s h3 (by decide) rfl) (cw_g h3 rfl (by decide +kernel)) ?_
  refine a_getN (v := .ref 16) dX10_hypotheses_46 fn_10_129 (cw_l h3 (by decide)) (cw_s h3 (by decide) rfl) (cw_g h3 rfl (by decide +kernel)) ?_
  refine a_callV (As := [.ref 16]) (st := []) (a := 10) (ci := 2) (bc := 0) (bs := 0) (mc := 0) (ms := 0) false dX10_hypotheses_49 mw_X2_takeOver rfl (Or.inl ⟨rfl, ml_X10_132⟩) im_X2_takeOver se_X2_takeOver (by decide) (cw_l h3 (by decide)) (cw_s h3 (by decide) rfl) rfl (Nat.le_of_ble_eq_true rfl) (z11_X2_takeOver (fr := fr)  h3) (fun v M4 hq => ?_)
  obtain ⟨rfl, h4⟩ := hq
  refine a_iconst (v := 0) dX10_hypotheses_52 (by decide) ?_
  refine a_istore_n dX10_hypotheses_53 rfl (Nat.le_of_ble_eq_true rfl) (lv2 := [(2, .int 0), (0, .ref 0), (1, .int 0)]) rfl ?_
  refine a_iload_n dX10_hypotheses_54 rfl rfl ?_
  refine a_iconst (v := 4) dX10_hypotheses_55 (by decide) ?_
  refine a_icmp_ge 74 dX10_hypotheses_56 (by decide) (fun c => absurd c (by decide)) (fun _ => ?_)
  refine a_aload_n dX10_hypotheses_59 rfl rfl ?_
  refine a_get (v := .ref 24) dX10_hypotheses_60 fl_10_38 (cw_l h4 (by decide)) (cw_s h4 (by decide) rfl) (cw_g h4 rfl (by decide +kernel)) ?_
  refine a_iload_n dX10_hypotheses_63 rfl rfl ?_
  refine a_aaload (r := 25) dX10_hypotheses_64 (cw_l h4 (by decide)) (cw_s h4 (by decide) rfl) (by unfold vp_in; decide +kernel) (cw_r h4 (by decide +kernel)) ?_
  refine a_callV (As := []) (st := []) (a := 25) (ci := 9) (bc := 0) (bs := 0) (mc := 0) (ms := 0) false dX10_hypotheses_65 mw_X9_clear rfl (Or.inl ⟨rfl, ml_X10_135⟩) im_X9_clear se_X9_clear (by decide) (cw_l h4 (by decide)) (cw_s h4 (by decide) rfl) rfl (Nat.le_of_ble_eq_true rfl) (z13_X9_clear (fr := fr)  h4) (fun v M5 hq => ?_)
  obtain ⟨rfl, h5⟩ := hq
  refine a_iinc (v := 1) dX10_hypotheses_68 rfl (by decide) (Nat.le_of_ble_eq_true rfl) (lv2 := [(2, .int 1), (0, .ref 0), (1, .int 0)]) rfl ?_
  refine a_goto 54 dX10_hypotheses_71 (by decide) ?_
  refine a_iload_n dX10_hypotheses_54 rfl rfl ?_
  refine a_iconst (v := 4) dX10_hypotheses_55 (by decide) ?_
  refine a_icmp_ge 74 dX10_hypotheses_56 (by decide) (fun c => absurd c (by decide)) (fun _ => ?_)
  refine a_aload_n dX10_hypotheses_59 rfl rfl ?_
  refine a_get (v := .ref 24) dX10_hypotheses_60 fl_10_38 (cw_l h5 (by decide)) (cw_s h5 (by decide) rfl) (cw_g h5 rfl (by decide +kernel)) ?_
  refine a_iload_n dX10_hypotheses_63 rfl rfl ?_
  refine a_aaload (r := 28) dX10_hypotheses_64 (cw_l h5 (by decide)) (cw_s h5 (by decide) rfl) (by unfold vp_in; decide +kernel) (cw_r h5 (by decide +kernel)) ?_
  refine a_callV (As := []) (st := []) (a := 28) (ci := 9) (bc := 0) (bs := 0) (mc := 0) (ms := 0) false dX10_hypotheses_65 mw_X9_clear rfl (Or.inl ⟨rfl, ml_X10_135⟩) im_X9_clear se_X9_clear (by decide) (cw_l h5 (by decide)) (cw_s h5 (by decide) rfl) rfl (Nat.le_of_ble_eq_true rfl) (z14_X9_clear (fr := fr)  h5) (fun v M6 hq => ?_)
  obtain ⟨rfl, h6⟩ := hq
  refine a_iinc (v := 2) dX10_hypotheses_68 rfl (by decide) (Nat.le_of_ble_eq_true rfl) (lv2 := [(2, .int 2), (0, .ref 0), (1, .int 0)]) rfl ?_
  refine a_goto 54 dX10_hypotheses_71 (by decide) ?_
  refine a_iload_n dX10_hypotheses_54 rfl rfl ?_
  refine a_iconst (v := 4) dX10_hypotheses_55 (by decide) ?_
  refine a_icmp_ge 74 dX10_hypotheses_56 (by decide) (fun c => absurd c (by decide)) (fun _ => ?_)
  refine a_aload_n dX10_hypotheses_59 rfl rfl ?_
  refine a_get (v := .ref 24) dX10_hypotheses_60 fl_10_38 (cw_l h6 (by decide)) (cw_s h6 (by decide) rfl) (cw_g h6 rfl (by decide +kernel)) ?_
  refine a_iload_n dX10_hypotheses_63 rfl rfl ?_
  refine a_aaload (r := 31) dX10_hypotheses_64 (cw_l h6 (by decide)) (cw_s h6 (by decide) rfl) (by unfold vp_in; decide +kernel) (cw_r h6 (by decide +kernel)) ?_
  refine a_callV (As := []) (st := []) (a := 31) (ci := 9) (bc := 0) (bs := 0) (mc := 0) (ms := 0) false dX10_hypotheses_65 mw_X9_clear rfl (Or.inl ⟨rfl, ml_X10_135⟩) im_X9_clear se_X9_clear (by decide) (cw_l h6 (by decide)) (cw_s h6 (by decide) rfl) rfl (Nat.le_of_ble_eq_true rfl) (z15_X9_clear (fr := fr)  h6) (fun v M7 hq => ?_)
  obtain ⟨rfl, h7⟩ := hq
  refine a_iinc (v := 3) dX10_hypotheses_68 rfl (by decide) (Nat.le_of_ble_eq_true rfl) (lv2 := [(2, .int 3), (0, .ref 0), (1, .int 0)]) rfl ?_
  refine a_goto 54 dX10_hypotheses_71 (by decide) ?_
  refine a_iload_n dX10_hypotheses_54 rfl rfl ?_
  refine a_iconst (v := 4) dX10_hypotheses_55 (by decide) ?_
  refine a_icmp_ge 74 dX10_hypotheses_56 (by decide) (fun c => absurd c (by decide)) (fun _ => ?_)
  refine a_aload_n dX10_hypotheses_59 rfl rfl ?_
  refine a_get (v := .ref 24) dX10_hypotheses_60 fl_10_38 (cw_l h7 (by decide)) (cw_s h7 (by decide) rfl) (cw_g h7 rfl (by decide +kernel)) ?_
  refine a_iload_n dX10_hypotheses_63 rfl rfl ?_
  refine a_aaload (r := 34) dX10_hypotheses_64 (cw_l h7 (by decide)) (cw_s h7 (by decide) rfl) (by unfold vp_in; decide +kernel) (cw_r h7 (by decide +kernel)) ?_
  refine a_callV (As := []) (st := []) (a := 34) (ci := 9) (bc := 0) (bs := 0) (mc := 0) (ms := 0) false dX10_hypotheses_65 mw_X9_clear rfl (Or.inl ⟨rfl, ml_X10_135⟩) im_X9_clear se_X9_clear (by decide) (cw_l h7 (by decide)) (cw_s h7 (by decide) rfl) rfl (Nat.le_of_ble_eq_true rfl) (z16_X9_clear (fr := fr)  h7) (fun v M8 hq => ?_)
  obtain ⟨rfl, h8⟩ := hq
  refine a_iinc (v := 4) dX10_hypotheses_68 rfl (by decide) (Nat.le_of_ble_eq_true rfl) (lv2 := [(2, .int 4), (0, .ref 0), (1, .int 0)]) rfl ?_
  refine a_goto 54 dX10_hypotheses_71 (by decide) ?_
  refine a_iload_n dX10_hypotheses_54 rfl rfl ?_
  refine a_iconst (v := 4) dX10_hypotheses_55 (by decide) ?_
  refine a_icmp_ge 74 dX10_hypotheses_56 (by decide) (fun _ => ?_) (fun c => absurd (by decide) c)
  refine a_aload_n dX10_hypotheses_74 rfl rfl ?_
  refine a_get (v := .ref 10) dX10_hypotheses_75 fl_10_23 (cw_l h8 (by decide)) (cw_s h8 (by decide) rfl) (cw_g h8 rfl (by decide +kernel)) ?_
  refine a_getN (v := .int 0) dX10_hypotheses_78 fn_10_138 (cw_l h8 (by decide)) (cw_s h8 (by decide) rfl) (cw_gi h8 rfl (by decide) (by first | decide +kernel | rfl)) ?_
  exact a_iret dX10_hypotheses_81 rfl ⟨by first | rfl | decide +kernel | simp [*], fm_of h8 (fun a k ha => by first | rfl | (repeat rw [up2_a _ _ _ _ (by omega)]))⟩
set_option maxHeartbeats 4000000 in
set_option maxRecDepth 100000 in
theorem z17_X10_tapeLacks {X : Nat × (Nat → Int32)} {fr : Nat} {M : Mem}  (n : Int32) (hn : n < 0) (h0 : Cw 126 Lj134 fs42 gs31 M) : AM yX10_tapeLacks cX10_tapeLacks 2 (some .boolean) true (fr + 7) 0 0 X [.ref 0, .int n] M (fun v M1 => v = some (.int 1) ∧ Cw 126 Lj134 fs42 gs31 M1) := by
  refine AM.of false (by decide +kernel) (by intro h; cases h) (Nat.le_of_ble_eq_true rfl) ?_
  show AW X (RX10, cX10_tapeLacks, 2, (some .boolean), false, true, fr + 7) 0 0 0 [(0, .ref 0), (1, .int n)] [] M _
  refine a_iload_n dX10_tapeLacks_0 rfl rfl ?_
  refine a_if_lt 12 dX10_tapeLacks_1 (by decide) (fun _ => ?_) (fun c => absurd (hn) c)
  refine a_iconst (v := 1) dX10_tapeLacks_12 (by decide) ?_
  refine a_goto 17 dX10_tapeLacks_13 (by decide) ?_
  exact a_zret dX10_tapeLacks_17 rfl (by decide) ⟨rfl, h0⟩
set_option maxHeartbeats 4000000 in
set_option maxRecDepth 100000 in
theorem p_hypotheses_n {X : Nat × (Nat → Int32)} {fr : Nat} {M : Mem}  (n : Int32) (hn : n < 0) (h0 : Cw 126 Lj134 fs42 gs31 M) : AM yX10_hypotheses cX10_hypotheses 3 (some .int) true (fr + 8) 0 0 X [.ref 0, .int n] M (fun v M1 => v = some (.int (-3)) ∧ Fm M1) := by
  refine AM.of false (by decide +kernel) (by intro h; cases h) (Nat.le_of_ble_eq_true rfl) ?_
  show AW X (RX10, cX10_hypotheses, 3, (some .int), false, true, fr + 8) 0 0 0 [(0, .ref 0), (1, .int n)] [] M _
  refine a_aload_n dX10_hypotheses_0 rfl rfl ?_
  refine a_iload_n dX10_hypotheses_1 rfl rfl ?_
  refine a_callV (As := [.int n]) (st := []) (a := 0) (ci := 10) (bc := 0) (bs := 0) (mc := 0) (ms := 0) false dX10_hypotheses_2 mw_X10_tapeLacks rfl (Or.inl ⟨rfl, ml_X10_119⟩) im_X10_tapeLacks se_X10_tapeLacks (by decide) (cw_l h0 (by decide)) (cw_s h0 (by decide) rfl) rfl (Nat.le_of_ble_eq_true rfl) (z17_X10_tapeLacks (fr := fr) n hn h0) (fun v M1 hq => ?_)
  obtain ⟨rfl, h1⟩ := hq
  show AW X _ 0 0 5 _ [.int 1] _ _
  refine a_if_eq 11 dX10_hypotheses_5 (by decide) (fun c => absurd c (by decide)) (fun _ => ?_)
  refine a_bipush (v := (-3)) dX10_hypotheses_8 (by decide) ?_
  exact a_iret dX10_hypotheses_10 rfl ⟨by first | rfl | decide +kernel | simp [*], fm_of h1 (fun a k ha => by first | rfl | (repeat rw [up2_a _ _ _ _ (by omega)]))⟩
set_option maxHeartbeats 4000000 in
set_option maxRecDepth 100000 in
theorem z18_X10_tapeLacks {X : Nat × (Nat → Int32)} {fr : Nat} {M : Mem}  (n : Int32) (hn : 0 < n) (h0 : Cw 126 Lj134 fs42 gs31 M) : AM yX10_tapeLacks cX10_tapeLacks 2 (some .boolean) true (fr + 7) 0 0 X [.ref 0, .int n] M (fun v M1 => v = some (.int 1) ∧ Cw 126 Lj134 fs42 gs31 M1) := by
  refine AM.of false (by decide +kernel) (by intro h; cases h) (Nat.le_of_ble_eq_true rfl) ?_
  show AW X (RX10, cX10_tapeLacks, 2, (some .boolean), false, true, fr + 7) 0 0 0 [(0, .ref 0), (1, .int n)] [] M _
  refine a_iload_n dX10_tapeLacks_0 rfl rfl ?_
  refine a_if_lt 12 dX10_tapeLacks_1 (by decide) (fun c => absurd c (not_neg hn)) (fun _ => ?_)
  refine a_iload_n dX10_tapeLacks_4 rfl rfl ?_
  refine a_aload_n dX10_tapeLacks_5 rfl rfl ?_
  refine a_get (v := .int 0) dX10_tapeLacks_6 fl_10_112 (cw_l h0 (by decide)) (cw_s h0 (by decide) rfl) (cw_gi h0 rfl (by decide) (by first | decide +kernel | rfl)) ?_
  refine a_icmp_le 16 dX10_tapeLacks_9 (by decide) (fun c => absurd c (Int32.not_le.mpr hn)) (fun _ => ?_)
  refine a_iconst (v := 1) dX10_tapeLacks_12 (by decide) ?_
  refine a_goto 17 dX10_tapeLacks_13 (by decide) ?_
  exact a_zret dX10_tapeLacks_17 rfl (by decide) ⟨rfl, h0⟩
set_option maxHeartbeats 4000000 in
set_option maxRecDepth 100000 in
theorem p_hypotheses_p {X : Nat × (Nat → Int32)} {fr : Nat} {M : Mem}  (n : Int32) (hn : 0 < n) (h0 : Cw 126 Lj134 fs42 gs31 M) : AM yX10_hypotheses cX10_hypotheses 3 (some .int) true (fr + 8) 0 0 X [.ref 0, .int n] M (fun v M1 => v = some (.int (-3)) ∧ Fm M1) := by
  refine AM.of false (by decide +kernel) (by intro h; cases h) (Nat.le_of_ble_eq_true rfl) ?_
  show AW X (RX10, cX10_hypotheses, 3, (some .int), false, true, fr + 8) 0 0 0 [(0, .ref 0), (1, .int n)] [] M _
  refine a_aload_n dX10_hypotheses_0 rfl rfl ?_
  refine a_iload_n dX10_hypotheses_1 rfl rfl ?_
  refine a_callV (As := [.int n]) (st := []) (a := 0) (ci := 10) (bc := 0) (bs := 0) (mc := 0) (ms := 0) false dX10_hypotheses_2 mw_X10_tapeLacks rfl (Or.inl ⟨rfl, ml_X10_119⟩) im_X10_tapeLacks se_X10_tapeLacks (by decide) (cw_l h0 (by decide)) (cw_s h0 (by decide) rfl) rfl (Nat.le_of_ble_eq_true rfl) (z18_X10_tapeLacks (fr := fr) n hn h0) (fun v M1 hq => ?_)
  obtain ⟨rfl, h1⟩ := hq
  show AW X _ 0 0 5 _ [.int 1] _ _
  refine a_if_eq 11 dX10_hypotheses_5 (by decide) (fun c => absurd c (by decide)) (fun _ => ?_)
  refine a_bipush (v := (-3)) dX10_hypotheses_8 (by decide) ?_
  exact a_iret dX10_hypotheses_10 rfl ⟨by first | rfl | decide +kernel | simp [*], fm_of h1 (fun a k ha => by first | rfl | (repeat rw [up2_a _ _ _ _ (by omega)]))⟩
set_option maxHeartbeats 4000000 in
set_option maxRecDepth 100000 in
theorem z21_X6_advance {X : Nat × (Nat → Int32)} {fr : Nat} {M : Mem}  (h0 : Cw 126 Lj134 (up2 (up2 (up2 (up2 (up2 fs42 0 1 0) 14 10 0) 14 11 0) 14 17 0) 14 18 (-1)) gs31 M) : AM yX6_advance cX6_advance 1 none true (fr + 5) 0 0 X [.ref 14] M (fun v M1 => v = none ∧ Cw 126 Lj134 (up2 (up2 (up2 (up2 (up2 (up2 (up2 (up2 fs42 0 1 0) 14 10 0) 14 11 0) 14 17 0) 14 18 (-1)) 14 12 0) 14 12 0) 14 13 (-3)) (up2 gs31 14 14 0) M1) := by
  refine AM.of false (by decide +kernel) (by intro h; cases h) (Nat.le_of_ble_eq_true rfl) ?_
  show AW X (RX6, cX6_advance, 1, none, false, true, fr + 5) 0 0 0 [(0, .ref 14)] [] M _
  refine a_aload_n dX6_advance_0 rfl rfl ?_
  refine a_get (v := .int 0) dX6_advance_1 fl_6_62 (cw_l h0 (by decide)) (cw_s h0 (by decide) rfl) (cw_gi h0 rfl (by decide) (by first | decide +kernel | rfl)) ?_
  refine a_aload_n dX6_advance_4 rfl rfl ?_
  refine a_get (v := .int 0) dX6_advance_5 fl_6_59 (cw_l h0 (by decide)) (cw_s h0 (by decide) rfl) (cw_gi h0 rfl (by decide) (by first | decide +kernel | rfl)) ?_
  refine a_icmp_ge 38 dX6_advance_8 (by decide) (fun _ => ?_) (fun c => absurd (by decide) c)
  refine a_aload_n dX6_advance_38 rfl rfl ?_
  refine a_aload_n dX6_advance_39 rfl rfl ?_
  refine a_get (v := .int 0) dX6_advance_40 fl_6_62 (cw_l h0 (by decide)) (cw_s h0 (by decide) rfl) (cw_gi h0 rfl (by decide) (by first | decide +kernel | rfl)) ?_
  refine a_putI dX6_advance_43 (Or.inl ⟨fl_6_68, Or.inl rfl⟩) rfl (cw_l h0 (by decide)) (cw_s h0 (by decide) rfl) rfl rfl ?_
  have h1 : Cw 126 Lj134 (up2 (up2 (up2 (up2 (up2 (up2 fs42 0 1 0) 14 10 0) 14 11 0) 14 17 0) 14 18 (-1)) 14 12 0) gs31 (wI M 14 12 0) := cw_I h0 (by decide)
  generalize (wI M 14 12 0) = M1 at h1 ⊢
  refine a_aload_n dX6_advance_46 rfl rfl ?_
  refine a_lconst (v := 0) dX6_advance_47 (by decide) ?_
  refine a_putJ dX6_advance_48 (Or.inl ⟨fl_6_71, Or.inl rfl⟩) rfl (cw_l h1 (by decide)) (cw_s h1 (by decide) rfl) ?_
  have h2 : Cw 126 Lj134 (up2 (up2 (up2 (up2 (up2 (up2 fs42 0 1 0) 14 10 0) 14 11 0) 14 17 0) 14 18 (-1)) 14 12 0) (up2 gs31 14 14 0) (wJ M1 14 14 0) := cw_J h1 (by decide)
  generalize (wJ M1 14 14 0) = M2 at h2 ⊢
  refine a_aload_n dX6_advance_51 rfl rfl ?_
  refine a_get (v := .int 0) dX6_advance_52 fl_6_62 (cw_l h2 (by decide)) (cw_s h2 (by decide) rfl) (cw_gi h2 rfl (by decide) (by first | decide +kernel | rfl)) ?_
  refine a_aload_n dX6_advance_55 rfl rfl ?_
  refine a_get (v := .int 0) dX6_advance_56 fl_6_59 (cw_l h2 (by decide)) (cw_s h2 (by decide) rfl) (cw_gi h2 rfl (by decide) (by first | decide +kernel | rfl)) ?_
  refine a_icmp_lt 77 dX6_advance_59 (by decide) (fun c => absurd c (by decide)) (fun _ => ?_)
  refine a_aload_n dX6_advance_62 rfl rfl ?_
  refine a_aload_n dX6_advance_63 rfl rfl ?_
  refine a_get (v := .int 0) dX6_advance_64 fl_6_59 (cw_l h2 (by decide)) (cw_s h2 (by decide) rfl) (cw_gi h2 rfl (by decide) (by first | decide +kernel | rfl)) ?_
  refine a_putI dX6_advance_67 (Or.inl ⟨fl_6_68, Or.inl rfl⟩) rfl (cw_l h2 (by decide)) (cw_s h2 (by decide) rfl) rfl rfl ?_
  have h3 : Cw 126 Lj134 (up2 (up2 (up2 (up2 (up2 (up2 (up2 fs42 0 1 0) 14 10 0) 14 11 0) 14 17 0) 14 18 (-1)) 14 12 0) 14 12 0) (up2 gs31 14 14 0) (wI M2 14 12 0) := cw_I h2 (by decide)
  generalize (wI M2 14 12 0) = M3 at h3 ⊢
  refine a_aload_n dX6_advance_70 rfl rfl ?_
  refine a_bipush (v := (-3)) dX6_advance_71 (by decide) ?_
  refine a_putI dX6_advance_73 (Or.inl ⟨fl_6_75, Or.inl rfl⟩) rfl (cw_l h3 (by decide)) (cw_s h3 (by decide) rfl) rfl rfl ?_
  have h4 : Cw 126 Lj134 (up2 (up2 (up2 (up2 (up2 (up2 (up2 (up2 fs42 0 1 0) 14 10 0) 14 11 0) 14 17 0) 14 18 (-1)) 14 12 0) 14 12 0) 14 13 (-3)) (up2 gs31 14 14 0) (wI M3 14 13 (-3)) := cw_I h3 (by decide)
  generalize (wI M3 14 13 (-3)) = M4 at h4 ⊢
  exact a_vret dX6_advance_76 rfl ⟨rfl, h4⟩
set_option maxHeartbeats 4000000 in
set_option maxRecDepth 100000 in
theorem z22_X6_fail {X : Nat × (Nat → Int32)} {fr : Nat} {M : Mem}  (h0 : Cw 126 Lj134 (up2 (up2 (up2 (up2 (up2 (up2 (up2 (up2 fs42 0 1 0) 14 10 0) 14 11 0) 14 17 0) 14 18 (-1)) 14 12 0) 14 12 0) 14 13 (-3)) (up2 gs31 14 14 0) M) : AM yX6_fail cX6_fail 3 (some .boolean) true (fr + 5) 0 0 X [.ref 14, .int 1, .int 0] M (fun v M1 => v = some (.int 0) ∧ Cw 126 Lj134 (up2 (up2 (up2 (up2 (up2 (up2 (up2 (up2 (up2 (up2 fs42 0 1 0) 14 10 0) 14 11 0) 14 17 0) 14 18 (-1)) 14 12 0) 14 12 0) 14 13 (-3)) 14 17 1) 14 18 0) (up2 gs31 14 14 0) M1) := by
  refine AM.of false (by decide +kernel) (by intro h; cases h) (Nat.le_of_ble_eq_true rfl) ?_
  show AW X (RX6, cX6_fail, 3, (some .boolean), false, true, fr + 5) 0 0 0 [(0, .ref 14), (1, .int 1), (2, .int 0)] [] M _
  refine a_aload_n dX6_fail_0 rfl rfl ?_
  refine a_iload_n dX6_fail_1 rfl rfl ?_
  refine a_putI dX6_fail_2 (Or.inl ⟨fl_6_65, Or.inl rfl⟩) rfl (cw_l h0 (by decide)) (cw_s h0 (by decide) rfl) rfl rfl ?_
  have h1 : Cw 126 Lj134 (up2 (up2 (up2 (up2 (up2 (up2 (up2 (up2 (up2 fs42 0 1 0) 14 10 0) 14 11 0) 14 17 0) 14 18 (-1)) 14 12 0) 14 12 0) 14 13 (-3)) 14 17 1) (up2 gs31 14 14 0) (wI M 14 17 1) := cw_I h0 (by decide)
  generalize (wI M 14 17 1) = M1 at h1 ⊢
  refine a_aload_n dX6_fail_5 rfl rfl ?_
  refine a_iload_n dX6_fail_6 rfl rfl ?_
  refine a_putI dX6_fail_7 (Or.inl ⟨fl_6_35, Or.inl rfl⟩) rfl (cw_l h1 (by decide)) (cw_s h1 (by decide) rfl) rfl rfl ?_
  have h2 : Cw 126 Lj134 (up2 (up2 (up2 (up2 (up2 (up2 (up2 (up2 (up2 (up2 fs42 0 1 0) 14 10 0) 14 11 0) 14 17 0) 14 18 (-1)) 14 12 0) 14 12 0) 14 13 (-3)) 14 17 1) 14 18 0) (up2 gs31 14 14 0) (wI M1 14 18 0) := cw_I h1 (by decide)
  generalize (wI M1 14 18 0) = M2 at h2 ⊢
  refine a_iconst (v := 0) dX6_fail_10 (by decide) ?_
  exact a_zret dX6_fail_11 rfl (by decide) ⟨rfl, h2⟩
set_option maxHeartbeats 4000000 in
set_option maxRecDepth 100000 in
theorem z20_X6_readFormula {X : Nat × (Nat → Int32)} {fr : Nat} {M : Mem}  (h0 : Cw 126 Lj134 (up2 (up2 (up2 (up2 (up2 fs42 0 1 0) 14 10 0) 14 11 0) 14 17 0) 14 18 (-1)) gs31 M) : AM yX6_readFormula cX6_readFormula 4 (some .int) true (fr + 6) 0 0 X [.ref 14] M (fun v M1 => v = some (.int (-1)) ∧ Cw 126 Lj134 (up2 (up2 (up2 (up2 (up2 (up2 (up2 (up2 (up2 (up2 fs42 0 1 0) 14 10 0) 14 11 0) 14 17 0) 14 18 (-1)) 14 12 0) 14 12 0) 14 13 (-3)) 14 17 1) 14 18 0) (up2 gs31 14 14 0) M1) := by
  refine AM.of false (by decide +kernel) (by intro h; cases h) (Nat.le_of_ble_eq_true rfl) ?_
  show AW X (RX6, cX6_readFormula, 4, (some .int), false, true, fr + 6) 0 0 0 [(0, .ref 14)] [] M _
  refine a_iconst (v := 1) dX6_readFormula_0 (by decide) ?_
  refine a_istore_n dX6_readFormula_1 rfl (Nat.le_of_ble_eq_true rfl) (lv2 := [(1, .int 1), (0, .ref 14)]) rfl ?_
  refine a_iconst (v := 0) dX6_readFormula_2 (by decide) ?_
  refine a_istore_n dX6_readFormula_3 rfl (Nat.le_of_ble_eq_true rfl) (lv2 := [(2, .int 0), (1, .int 1), (0, .ref 14)]) rfl ?_
  refine a_iconst (v := 0) dX6_readFormula_4 (by decide) ?_
  refine a_istore_n dX6_readFormula_5 rfl (Nat.le_of_ble_eq_true rfl) (lv2 := [(3, .int 0), (2, .int 0), (1, .int 1), (0, .ref 14)]) rfl ?_
  refine a_iload_n dX6_readFormula_6 rfl rfl ?_
  refine a_if_le 114 dX6_readFormula_7 (by decide) (fun c => absurd c (by decide)) (fun _ => ?_)
  refine a_iload_n dX6_readFormula_10 rfl rfl ?_
  refine a_bipush (v := 30) dX6_readFormula_11 (by decide) ?_
  refine a_icmp_gt 114 dX6_readFormula_13 (by decide) (fun c => absurd c (by decide)) (fun _ => ?_)
  refine a_aload_n dX6_readFormula_16 rfl rfl ?_
  refine a_callV (As := []) (st := []) (a := 14) (ci := 6) (bc := 0) (bs := 0) (mc := 0) (ms := 0) false dX6_readFormula_17 mw_X6_advance rfl (Or.inl ⟨rfl, ml_X6_97⟩) im_X6_advance se_X6_advance (by decide) (cw_l h0 (by decide)) (cw_s h0 (by decide) rfl) rfl (Nat.le_of_ble_eq_true rfl) (z21_X6_advance (fr := fr)  h0) (fun v M1 hq => ?_)
  obtain ⟨rfl, h1⟩ := hq
  refine a_aload_n dX6_readFormula_20 rfl rfl ?_
  refine a_get (v := .int (-3)) dX6_readFormula_21 fl_6_75 (cw_l h1 (by decide)) (cw_s h1 (by decide) rfl) (cw_gi h1 rfl (by decide) (by first | decide +kernel | rfl)) ?_
  refine a_if_lt 36 dX6_readFormula_24 (by decide) (fun _ => ?_) (fun c => absurd (by decide) c)
  refine a_aload_n dX6_readFormula_36 rfl rfl ?_
  refine a_iconst (v := 1) dX6_readFormula_37 (by decide) ?_
  refine a_aload_n dX6_readFormula_38 rfl rfl ?_
  refine a_get (v := .int 0) dX6_readFormula_39 fl_6_68 (cw_l h1 (by decide)) (cw_s h1 (by decide) rfl) (cw_gi h1 rfl (by decide) (by first | decide +kernel | rfl)) ?_
  refine a_callV (As := [.int 1, .int 0]) (st := []) (a := 14) (ci := 6) (bc := 0) (bs := 0) (mc := 0) (ms := 0) false dX6_readFormula_42 mw_X6_fail rfl (Or.inl ⟨rfl, ml_X6_107⟩) im_X6_fail se_X6_fail (by decide) (cw_l h1 (by decide)) (cw_s h1 (by decide) rfl) rfl (Nat.le_of_ble_eq_true rfl) (z22_X6_fail (fr := fr)  h1) (fun v M2 hq => ?_)
  obtain ⟨rfl, h2⟩ := hq
  show AW X _ 0 0 45 _ [.int 0] _ _
  refine a_pop dX6_readFormula_45 rfl ?_
  refine a_iconst (v := (-1)) dX6_readFormula_46 (by decide) ?_
  exact a_iret dX6_readFormula_47 rfl ⟨rfl, h2⟩
set_option maxHeartbeats 4000000 in
set_option maxRecDepth 100000 in
theorem z19_X6_readGoal {X : Nat × (Nat → Int32)} {fr : Nat} {M : Mem}  (h0 : Cw 126 Lj134 (up2 fs42 0 1 0) gs31 M) : AM yX6_readGoal cX6_readGoal 3 (some .int) true (fr + 7) 0 0 X [.ref 14, .int 0] M (fun v M1 => v = some (.int (-1)) ∧ Cw 126 Lj134 (up2 (up2 (up2 (up2 (up2 (up2 (up2 (up2 (up2 (up2 fs42 0 1 0) 14 10 0) 14 11 0) 14 17 0) 14 18 (-1)) 14 12 0) 14 12 0) 14 13 (-3)) 14 17 1) 14 18 0) (up2 gs31 14 14 0) M1) := by
  refine AM.of false (by decide +kernel) (by intro h; cases h) (Nat.le_of_ble_eq_true rfl) ?_
  show AW X (RX6, cX6_readGoal, 3, (some .int), false, true, fr + 7) 0 0 0 [(0, .ref 14), (1, .int 0)] [] M _
  refine a_aload_n dX6_readGoal_0 rfl rfl ?_
  refine a_iload_n dX6_readGoal_1 rfl rfl ?_
  refine a_callV (As := [.int 0]) (st := []) (a := 14) (ci := 6) (bc := 0) (bs := 0) (mc := 0) (ms := 0) false dX6_readGoal_2 mw_X6_begin rfl (Or.inl ⟨rfl, ml_X6_90⟩) im_X6_begin se_X6_begin (by decide) (cw_l h0 (by decide)) (cw_s h0 (by decide) rfl) rfl (Nat.le_of_ble_eq_true rfl) (z8_X6_begin (fr := fr)  h0) (fun v M1 hq => ?_)
  obtain ⟨rfl, h1⟩ := hq
  refine a_aload_n dX6_readGoal_5 rfl rfl ?_
  refine a_callV (As := []) (st := []) (a := 14) (ci := 6) (bc := 0) (bs := 0) (mc := 0) (ms := 0) false dX6_readGoal_6 mw_X6_readFormula rfl (Or.inl ⟨rfl, ml_X6_123⟩) im_X6_readFormula se_X6_readFormula (by decide) (cw_l h1 (by decide)) (cw_s h1 (by decide) rfl) rfl (Nat.le_of_ble_eq_true rfl) (z20_X6_readFormula (fr := fr)  h1) (fun v M2 hq => ?_)
  obtain ⟨rfl, h2⟩ := hq
  show AW X _ 0 0 9 _ [.int (-1)] _ _
  refine a_istore_n dX6_readGoal_9 rfl (Nat.le_of_ble_eq_true rfl) (lv2 := [(2, .int (-1)), (0, .ref 14), (1, .int 0)]) rfl ?_
  refine a_iload_n dX6_readGoal_10 rfl rfl ?_
  refine a_iconst (v := (-1)) dX6_readGoal_11 (by decide) ?_
  refine a_icmp_eq 26 dX6_readGoal_12 (by decide) (fun _ => ?_) (fun c => absurd (by decide) c)
  refine a_iconst (v := (-1)) dX6_readGoal_26 (by decide) ?_
  exact a_iret dX6_readGoal_27 rfl ⟨rfl, h2⟩
set_option maxHeartbeats 4000000 in
set_option maxRecDepth 100000 in
theorem p_goal_0 {X : Nat × (Nat → Int32)} {fr : Nat} {M : Mem}  (h0 : Cw 126 Lj134 fs42 gs31 M) : AM yX10_goal cX10_goal 3 (some .int) true (fr + 8) 0 0 X [.ref 0, .int 0] M (fun v M1 => v = some (.int (-31)) ∧ Fm M1) := by
  refine AM.of false (by decide +kernel) (by intro h; cases h) (Nat.le_of_ble_eq_true rfl) ?_
  show AW X (RX10, cX10_goal, 3, (some .int), false, true, fr + 8) 0 0 0 [(0, .ref 0), (1, .int 0)] [] M _
  refine a_aload_n dX10_goal_0 rfl rfl ?_
  refine a_iload_n dX10_goal_1 rfl rfl ?_
  refine a_callV (As := [.int 0]) (st := []) (a := 0) (ci := 10) (bc := 0) (bs := 0) (mc := 0) (ms := 0) false dX10_goal_2 mw_X10_tapeLacks rfl (Or.inl ⟨rfl, ml_X10_119⟩) im_X10_tapeLacks se_X10_tapeLacks (by decide) (cw_l h0 (by decide)) (cw_s h0 (by decide) rfl) rfl (Nat.le_of_ble_eq_true rfl) (z6_X10_tapeLacks (fr := fr)  h0) (fun v M1 hq => ?_)
  obtain ⟨rfl, h1⟩ := hq
  show AW X _ 0 0 5 _ [.int 0] _ _
  refine a_if_eq 11 dX10_goal_5 (by decide) (fun _ => ?_) (fun c => absurd (by decide) c)
  refine a_aload_n dX10_goal_11 rfl rfl ?_
  refine a_iconst (v := 0) dX10_goal_12 (by decide) ?_
  refine a_putI dX10_goal_13 (Or.inl ⟨fl_10_112, Or.inl rfl⟩) rfl (cw_l h1 (by decide)) (cw_s h1 (by decide) rfl) rfl rfl ?_
  have h2 : Cw 126 Lj134 (up2 fs42 0 1 0) gs31 (wI M1 0 1 0) := cw_I h1 (by decide)
  generalize (wI M1 0 1 0) = M2 at h2 ⊢
  refine a_aload_n dX10_goal_16 rfl rfl ?_
  refine a_get (v := .ref 14) dX10_goal_17 fl_10_32 (cw_l h2 (by decide)) (cw_s h2 (by decide) rfl) (cw_g h2 rfl (by decide +kernel)) ?_
  refine a_iload_n dX10_goal_20 rfl rfl ?_
  refine a_callV (As := [.int 0]) (st := []) (a := 14) (ci := 6) (bc := 0) (bs := 0) (mc := 0) (ms := 0) false dX10_goal_21 mw_X6_readGoal rfl (Or.inl ⟨rfl, ml_X10_141⟩) im_X6_readGoal se_X6_readGoal (by decide) (cw_l h2 (by decide)) (cw_s h2 (by decide) rfl) rfl (Nat.le_of_ble_eq_true rfl) (z19_X6_readGoal (fr := fr)  h2) (fun v M3 hq => ?_)
  obtain ⟨rfl, h3⟩ := hq
  show AW X _ 0 0 24 _ [.int (-1)] _ _
  refine a_istore_n dX10_goal_24 rfl (Nat.le_of_ble_eq_true rfl) (lv2 := [(2, .int (-1)), (0, .ref 0), (1, .int 0)]) rfl ?_
  refine a_iload_n dX10_goal_25 rfl rfl ?_
  refine a_iconst (v := (-1)) dX10_goal_26 (by decide) ?_
  refine a_icmp_ne 41 dX10_goal_27 (by decide) (fun c => absurd (by decide) c) (fun _ => ?_)
  refine a_bipush (v := (-30)) dX10_goal_30 (by decide) ?_
  refine a_aload_n dX10_goal_32 rfl rfl ?_
  refine a_get (v := .ref 14) dX10_goal_33 fl_10_32 (cw_l h3 (by decide)) (cw_s h3 (by decide) rfl) (cw_g h3 rfl (by decide +kernel)) ?_
  refine a_getN (v := .int 1) dX10_goal_36 fn_10_126 (cw_l h3 (by decide)) (cw_s h3 (by decide) rfl) (cw_gi h3 rfl (by decide) (by first | decide +kernel | rfl)) ?_
  refine a_isub dX10_goal_39 ?_
  refine a_st (st2 := [.int (-31)]) (by decide +kernel) ?_
  exact a_iret dX10_goal_40 rfl ⟨by first | rfl | decide +kernel | simp [*], fm_of h3 (fun a k ha => by first | rfl | (repeat rw [up2_a _ _ _ _ (by omega)]))⟩
set_option maxHeartbeats 4000000 in
set_option maxRecDepth 100000 in
theorem p_goal_n {X : Nat × (Nat → Int32)} {fr : Nat} {M : Mem}  (n : Int32) (hn : n < 0) (h0 : Cw 126 Lj134 fs42 gs31 M) : AM yX10_goal cX10_goal 3 (some .int) true (fr + 8) 0 0 X [.ref 0, .int n] M (fun v M1 => v = some (.int (-3)) ∧ Fm M1) := by
  refine AM.of false (by decide +kernel) (by intro h; cases h) (Nat.le_of_ble_eq_true rfl) ?_
  show AW X (RX10, cX10_goal, 3, (some .int), false, true, fr + 8) 0 0 0 [(0, .ref 0), (1, .int n)] [] M _
  refine a_aload_n dX10_goal_0 rfl rfl ?_
  refine a_iload_n dX10_goal_1 rfl rfl ?_
  refine a_callV (As := [.int n]) (st := []) (a := 0) (ci := 10) (bc := 0) (bs := 0) (mc := 0) (ms := 0) false dX10_goal_2 mw_X10_tapeLacks rfl (Or.inl ⟨rfl, ml_X10_119⟩) im_X10_tapeLacks se_X10_tapeLacks (by decide) (cw_l h0 (by decide)) (cw_s h0 (by decide) rfl) rfl (Nat.le_of_ble_eq_true rfl) (z17_X10_tapeLacks (fr := fr) n hn h0) (fun v M1 hq => ?_)
  obtain ⟨rfl, h1⟩ := hq
  show AW X _ 0 0 5 _ [.int 1] _ _
  refine a_if_eq 11 dX10_goal_5 (by decide) (fun c => absurd c (by decide)) (fun _ => ?_)
  refine a_bipush (v := (-3)) dX10_goal_8 (by decide) ?_
  exact a_iret dX10_goal_10 rfl ⟨by first | rfl | decide +kernel | simp [*], fm_of h1 (fun a k ha => by first | rfl | (repeat rw [up2_a _ _ _ _ (by omega)]))⟩
set_option maxHeartbeats 4000000 in
set_option maxRecDepth 100000 in
theorem p_goal_p {X : Nat × (Nat → Int32)} {fr : Nat} {M : Mem}  (n : Int32) (hn : 0 < n) (h0 : Cw 126 Lj134 fs42 gs31 M) : AM yX10_goal cX10_goal 3 (some .int) true (fr + 8) 0 0 X [.ref 0, .int n] M (fun v M1 => v = some (.int (-3)) ∧ Fm M1) := by
  refine AM.of false (by decide +kernel) (by intro h; cases h) (Nat.le_of_ble_eq_true rfl) ?_
  show AW X (RX10, cX10_goal, 3, (some .int), false, true, fr + 8) 0 0 0 [(0, .ref 0), (1, .int n)] [] M _
  refine a_aload_n dX10_goal_0 rfl rfl ?_
  refine a_iload_n dX10_goal_1 rfl rfl ?_
  refine a_callV (As := [.int n]) (st := []) (a := 0) (ci := 10) (bc := 0) (bs := 0) (mc := 0) (ms := 0) false dX10_goal_2 mw_X10_tapeLacks rfl (Or.inl ⟨rfl, ml_X10_119⟩) im_X10_tapeLacks se_X10_tapeLacks (by decide) (cw_l h0 (by decide)) (cw_s h0 (by decide) rfl) rfl (Nat.le_of_ble_eq_true rfl) (z18_X10_tapeLacks (fr := fr) n hn h0) (fun v M1 hq => ?_)
  obtain ⟨rfl, h1⟩ := hq
  show AW X _ 0 0 5 _ [.int 1] _ _
  refine a_if_eq 11 dX10_goal_5 (by decide) (fun c => absurd c (by decide)) (fun _ => ?_)
  refine a_bipush (v := (-3)) dX10_goal_8 (by decide) ?_
  exact a_iret dX10_goal_10 rfl ⟨by first | rfl | decide +kernel | simp [*], fm_of h1 (fun a k ha => by first | rfl | (repeat rw [up2_a _ _ _ _ (by omega)]))⟩
set_option maxHeartbeats 4000000 in
set_option maxRecDepth 100000 in
theorem z23_X10_tapeLacks {X : Nat × (Nat → Int32)} {fr : Nat} {M : Mem} (x : Int32) (hv_x : ¬ (x < 0 ∨ 4 ≤ x)) (h0 : Cw 126 Lj134 fs42 gs31 M) : AM yX10_tapeLacks cX10_tapeLacks 2 (some .boolean) true (fr + 7) 0 0 X [.ref 0, .int 0] M (fun v M1 => v = some (.int 0) ∧ Cw 126 Lj134 fs42 gs31 M1) := by
  refine AM.of false (by decide +kernel) (by intro h; cases h) (Nat.le_of_ble_eq_true rfl) ?_
  show AW X (RX10, cX10_tapeLacks, 2, (some .boolean), false, true, fr + 7) 0 0 0 [(0, .ref 0), (1, .int 0)] [] M _
  refine a_iload_n dX10_tapeLacks_0 rfl rfl ?_
  refine a_if_lt 12 dX10_tapeLacks_1 (by decide) (fun c => absurd c (by decide)) (fun _ => ?_)
  refine a_iload_n dX10_tapeLacks_4 rfl rfl ?_
  refine a_aload_n dX10_tapeLacks_5 rfl rfl ?_
  refine a_get (v := .int 0) dX10_tapeLacks_6 fl_10_112 (cw_l h0 (by decide)) (cw_s h0 (by decide) rfl) (cw_gi h0 rfl (by decide) (by first | decide +kernel | rfl)) ?_
  refine a_icmp_le 16 dX10_tapeLacks_9 (by decide) (fun _ => ?_) (fun c => absurd (by decide) c)
  refine a_iconst (v := 0) dX10_tapeLacks_16 (by decide) ?_
  exact a_zret dX10_tapeLacks_17 rfl (by decide) ⟨rfl, h0⟩
set_option maxHeartbeats 4000000 in
set_option maxRecDepth 100000 in
theorem z25_X6_begin {X : Nat × (Nat → Int32)} {fr : Nat} {M : Mem} (x : Int32) (hv_x : ¬ (x < 0 ∨ 4 ≤ x)) (h0 : Cw 126 Lj134 (up2 fs42 0 1 0) gs31 M) : AM yX6_begin cX6_begin 2 none true (fr + 6) 0 0 X [.ref 14, .int 0] M (fun v M1 => v = none ∧ Cw 126 Lj134 (up2 (up2 (up2 (up2 (up2 fs42 0 1 0) 14 10 0) 14 11 0) 14 17 0) 14 18 (-1)) gs31 M1) := by
  refine AM.of false (by decide +kernel) (by intro h; cases h) (Nat.le_of_ble_eq_true rfl) ?_
  show AW X (RX6, cX6_begin, 2, none, false, true, fr + 6) 0 0 0 [(0, .ref 14), (1, .int 0)] [] M _
  refine a_aload_n dX6_begin_0 rfl rfl ?_
  refine a_iload_n dX6_begin_1 rfl rfl ?_
  refine a_aload_n dX6_begin_2 rfl rfl ?_
  refine a_get (v := .ref 1) dX6_begin_3 fl_6_43 (cw_l h0 (by decide)) (cw_s h0 (by decide) rfl) (cw_g h0 rfl (by decide +kernel)) ?_
  refine a_alen (v := 600) (by decide) dX6_begin_6 (cw_l h0 (by decide)) (cw_s h0 (by decide) rfl) (by decide) ?_
  refine a_mmin dX6_begin_7 mm_X6_54 mmin_s ini_Math mmin_c (Nat.le_add_left 1 (fr + 5)) (Nat.le_of_ble_eq_true rfl) ?_
  refine a_st (st2 := [.int 0, .ref 14]) (by decide +kernel) ?_
  refine a_putI dX6_begin_10 (Or.inl ⟨fl_6_59, Or.inl rfl⟩) rfl (cw_l h0 (by decide)) (cw_s h0 (by decide) rfl) rfl rfl ?_
  have h1 : Cw 126 Lj134 (up2 (up2 fs42 0 1 0) 14 10 0) gs31 (wI M 14 10 0) := cw_I h0 (by decide)
  generalize (wI M 14 10 0) = M1 at h1 ⊢
  refine a_aload_n dX6_begin_13 rfl rfl ?_
  refine a_iconst (v := 0) dX6_begin_14 (by decide) ?_
  refine a_putI dX6_begin_15 (Or.inl ⟨fl_6_62, Or.inl rfl⟩) rfl (cw_l h1 (by decide)) (cw_s h1 (by decide) rfl) rfl rfl ?_
  have h2 : Cw 126 Lj134 (up2 (up2 (up2 fs42 0 1 0) 14 10 0) 14 11 0) gs31 (wI M1 14 11 0) := cw_I h1 (by decide)
  generalize (wI M1 14 11 0) = M2 at h2 ⊢
  refine a_aload_n dX6_begin_18 rfl rfl ?_
  refine a_iconst (v := 0) dX6_begin_19 (by decide) ?_
  refine a_putI dX6_begin_20 (Or.inl ⟨fl_6_65, Or.inl rfl⟩) rfl (cw_l h2 (by decide)) (cw_s h2 (by decide) rfl) rfl rfl ?_
  have h3 : Cw 126 Lj134 (up2 (up2 (up2 (up2 fs42 0 1 0) 14 10 0) 14 11 0) 14 17 0) gs31 (wI M2 14 17 0) := cw_I h2 (by decide)
  generalize (wI M2 14 17 0) = M3 at h3 ⊢
  refine a_aload_n dX6_begin_23 rfl rfl ?_
  refine a_iconst (v := (-1)) dX6_begin_24 (by decide) ?_
  refine a_putI dX6_begin_25 (Or.inl ⟨fl_6_35, Or.inl rfl⟩) rfl (cw_l h3 (by decide)) (cw_s h3 (by decide) rfl) rfl rfl ?_
  have h4 : Cw 126 Lj134 (up2 (up2 (up2 (up2 (up2 fs42 0 1 0) 14 10 0) 14 11 0) 14 17 0) 14 18 (-1)) gs31 (wI M3 14 18 (-1)) := cw_I h3 (by decide)
  generalize (wI M3 14 18 (-1)) = M4 at h4 ⊢
  exact a_vret dX6_begin_28 rfl ⟨rfl, h4⟩
set_option maxHeartbeats 4000000 in
set_option maxRecDepth 100000 in
theorem z26_X9_clear {X : Nat × (Nat → Int32)} {fr : Nat} {M : Mem} (x : Int32) (hv_x : ¬ (x < 0 ∨ 4 ≤ x)) (h0 : Cw 126 Lj134 (up2 (up2 (up2 (up2 (up2 fs42 0 1 0) 14 10 0) 14 11 0) 14 17 0) 14 18 (-1)) gs31 M) : AM yX9_clear cX9_clear 1 none true (fr + 6) 0 0 X [.ref 37] M (fun v M1 => v = none ∧ Cw 126 Lj134 (up2 (up2 (up2 (up2 (up2 (up2 (up2 fs42 0 1 0) 14 10 0) 14 11 0) 14 17 0) 14 18 (-1)) 37 2 0) 37 3 0) gs31 M1) := by
  refine AM.of false (by decide +kernel) (by intro h; cases h) (Nat.le_of_ble_eq_true rfl) ?_
  show AW X (RX9, cX9_clear, 1, none, false, true, fr + 6) 0 0 0 [(0, .ref 37)] [] M _
  refine a_aload_n dX9_clear_0 rfl rfl ?_
  refine a_iconst (v := 0) dX9_clear_1 (by decide) ?_
  refine a_putI dX9_clear_2 (Or.inl ⟨fl_9_18, Or.inl rfl⟩) rfl (cw_l h0 (by decide)) (cw_s h0 (by decide) rfl) rfl rfl ?_
  have h1 : Cw 126 Lj134 (up2 (up2 (up2 (up2 (up2 (up2 fs42 0 1 0) 14 10 0) 14 11 0) 14 17 0) 14 18 (-1)) 37 2 0) gs31 (wI M 37 2 0) := cw_I h0 (by decide)
  generalize (wI M 37 2 0) = M1 at h1 ⊢
  refine a_aload_n dX9_clear_5 rfl rfl ?_
  refine a_iconst (v := 0) dX9_clear_6 (by decide) ?_
  refine a_putI dX9_clear_7 (Or.inl ⟨fl_9_22, Or.inl rfl⟩) rfl (cw_l h1 (by decide)) (cw_s h1 (by decide) rfl) rfl rfl ?_
  have h2 : Cw 126 Lj134 (up2 (up2 (up2 (up2 (up2 (up2 (up2 fs42 0 1 0) 14 10 0) 14 11 0) 14 17 0) 14 18 (-1)) 37 2 0) 37 3 0) gs31 (wI M1 37 3 0) := cw_I h1 (by decide)
  generalize (wI M1 37 3 0) = M2 at h2 ⊢
  exact a_vret dX9_clear_10 rfl ⟨rfl, h2⟩
set_option maxHeartbeats 4000000 in
set_option maxRecDepth 100000 in
theorem z27_X6_push {X : Nat × (Nat → Int32)} {fr : Nat} {M : Mem} (x : Int32) (hv_x : ¬ (x < 0 ∨ 4 ≤ x)) (h0 : Cw 126 Lj134 (up2 (up2 (up2 (up2 (up2 (up2 (up2 (up2 (up2 fs42 0 1 0) 14 10 0) 14 11 0) 14 17 0) 14 18 (-1)) 37 2 0) 37 3 0) 14 6 0) 14 8 0) gs31 M) : AM yX6_push cX6_push 2 none true (fr + 6) 0 0 X [.ref 14, .int 1] M (fun v M1 => v = none ∧ Cw 126 Lj134 (up2 (up2 (up2 (up2 (up2 (up2 (up2 (up2 (up2 (up2 (up2 fs42 0 1 0) 14 10 0) 14 11 0) 14 17 0) 14 18 (-1)) 37 2 0) 37 3 0) 14 6 0) 14 8 0) 21 0 1) 14 6 1) gs31 M1) := by
  refine AM.of false (by decide +kernel) (by intro h; cases h) (Nat.le_of_ble_eq_true rfl) ?_
  show AW X (RX6, cX6_push, 2, none, false, true, fr + 6) 0 0 0 [(0, .ref 14), (1, .int 1)] [] M _
  refine a_aload_n dX6_push_0 rfl rfl ?_
  refine a_get (v := .int 0) dX6_push_1 fl_6_157 (cw_l h0 (by decide)) (cw_s h0 (by decide) rfl) (cw_gi h0 rfl (by decide) (by first | decide +kernel | rfl)) ?_
  refine a_if_lt 39 dX6_push_4 (by decide) (fun c => absurd c (by decide)) (fun _ => ?_)
  refine a_aload_n dX6_push_7 rfl rfl ?_
  refine a_get (v := .int 0) dX6_push_8 fl_6_157 (cw_l h0 (by decide)) (cw_s h0 (by decide) rfl) (cw_gi h0 rfl (by decide) (by first | decide +kernel | rfl)) ?_
  refine a_aload_n dX6_push_11 rfl rfl ?_
  refine a_get (v := .ref 21) dX6_push_12 fl_6_26 (cw_l h0 (by decide)) (cw_s h0 (by decide) rfl) (cw_g h0 rfl (by decide +kernel)) ?_
  refine a_alen (v := 854) (by decide) dX6_push_15 (cw_l h0 (by decide)) (cw_s h0 (by decide) rfl) (by decide) ?_
  refine a_icmp_ge 39 dX6_push_16 (by decide) (fun c => absurd c (by decide)) (fun _ => ?_)
  refine a_aload_n dX6_push_19 rfl rfl ?_
  refine a_get (v := .ref 21) dX6_push_20 fl_6_26 (cw_l h0 (by decide)) (cw_s h0 (by decide) rfl) (cw_g h0 rfl (by decide +kernel)) ?_
  refine a_aload_n dX6_push_23 rfl rfl ?_
  refine a_get (v := .int 0) dX6_push_24 fl_6_157 (cw_l h0 (by decide)) (cw_s h0 (by decide) rfl) (cw_gi h0 rfl (by decide) (by first | decide +kernel | rfl)) ?_
  refine a_iload_n dX6_push_27 rfl rfl ?_
  refine a_iastore dX6_push_28 (cw_l h0 (by decide)) (cw_s h0 (by decide) rfl) (by unfold vp_in; decide +kernel) ?_
  rw [show Int32.toNatClampNeg 0 = 0 from by decide +kernel]
  have h1 : Cw 126 Lj134 (up2 (up2 (up2 (up2 (up2 (up2 (up2 (up2 (up2 (up2 fs42 0 1 0) 14 10 0) 14 11 0) 14 17 0) 14 18 (-1)) 37 2 0) 37 3 0) 14 6 0) 14 8 0) 21 0 1) gs31 (wI M 21 0 1) := cw_I h0 (by decide)
  generalize (wI M 21 0 1) = M1 at h1 ⊢
  refine a_aload_n dX6_push_29 rfl rfl ?_
  refine a_dup dX6_push_30 rfl ?_
  refine a_get (v := .int 0) dX6_push_31 fl_6_157 (cw_l h1 (by decide)) (cw_s h1 (by decide) rfl) (cw_gi h1 rfl (by decide) (by first | decide +kernel | rfl)) ?_
  refine a_iconst (v := 1) dX6_push_34 (by decide) ?_
  refine a_iadd dX6_push_35 ?_
  refine a_st (st2 := [.int 1, .ref 14]) (by decide +kernel) ?_
  refine a_putI dX6_push_36 (Or.inl ⟨fl_6_157, Or.inl rfl⟩) rfl (cw_l h1 (by decide)) (cw_s h1 (by decide) rfl) rfl rfl ?_
  have h2 : Cw 126 Lj134 (up2 (up2 (up2 (up2 (up2 (up2 (up2 (up2 (up2 (up2 (up2 fs42 0 1 0) 14 10 0) 14 11 0) 14 17 0) 14 18 (-1)) 37 2 0) 37 3 0) 14 6 0) 14 8 0) 21 0 1) 14 6 1) gs31 (wI M1 14 6 1) := cw_I h1 (by decide)
  generalize (wI M1 14 6 1) = M2 at h2 ⊢
  exact a_vret dX6_push_39 rfl ⟨rfl, h2⟩
set_option maxHeartbeats 4000000 in
set_option maxRecDepth 100000 in
theorem z29_X10_at {X : Nat × (Nat → Int32)} {fr : Nat} {M : Mem} (x : Int32) (hv_x : ¬ (x < 0 ∨ 4 ≤ x)) (h0 : Cw 126 Lj134 (up2 (up2 (up2 (up2 (up2 (up2 (up2 (up2 (up2 (up2 (up2 (up2 fs42 0 1 0) 14 10 0) 14 11 0) 14 17 0) 14 18 (-1)) 37 2 0) 37 3 0) 14 6 0) 14 8 0) 21 0 1) 14 6 1) 14 6 0) gs31 M) : AM yX10_at cX10_at 2 (some .int) true (fr + 5) 0 0 X [.ref 21, .int 0] M (fun v M1 => v = some (.int 1) ∧ Cw 126 Lj134 (up2 (up2 (up2 (up2 (up2 (up2 (up2 (up2 (up2 (up2 (up2 (up2 fs42 0 1 0) 14 10 0) 14 11 0) 14 17 0) 14 18 (-1)) 37 2 0) 37 3 0) 14 6 0) 14 8 0) 21 0 1) 14 6 1) 14 6 0) gs31 M1) := by
  refine AM.of false (by decide +kernel) (by intro h; cases h) (Nat.le_of_ble_eq_true rfl) ?_
  show AW X (RX10, cX10_at, 2, (some .int), false, true, fr + 5) 0 0 0 [(0, .ref 21), (1, .int 0)] [] M _
  refine a_iload_n dX10_at_0 rfl rfl ?_
  refine a_if_lt 16 dX10_at_1 (by decide) (fun c => absurd c (by decide)) (fun _ => ?_)
  refine a_iload_n dX10_at_4 rfl rfl ?_
  refine a_aload_n dX10_at_5 rfl rfl ?_
  refine a_alen (v := 854) (by decide) dX10_at_6 (cw_l h0 (by decide)) (cw_s h0 (by decide) rfl) (by decide) ?_
  refine a_icmp_ge 16 dX10_at_7 (by decide) (fun c => absurd c (by decide)) (fun _ => ?_)
  refine a_aload_n dX10_at_10 rfl rfl ?_
  refine a_iload_n dX10_at_11 rfl rfl ?_
  refine a_iaload dX10_at_12 (cw_l h0 (by decide)) (cw_s h0 (by decide) rfl) (by unfold vp_in; decide +kernel) ?_
  rw [show M.2.2.1 21 (Int32.toNatClampNeg 0) = 1 from (cw_i h0 (by decide)).trans (by first | decide +kernel | rfl)]
  refine a_goto 17 dX10_at_13 (by decide) ?_
  exact a_iret dX10_at_17 rfl ⟨rfl, h0⟩
set_option maxHeartbeats 4000000 in
set_option maxRecDepth 100000 in
theorem z28_X6_pop {X : Nat × (Nat → Int32)} {fr : Nat} {M : Mem} (x : Int32) (hv_x : ¬ (x < 0 ∨ 4 ≤ x)) (h0 : Cw 126 Lj134 (up2 (up2 (up2 (up2 (up2 (up2 (up2 (up2 (up2 (up2 (up2 fs42 0 1 0) 14 10 0) 14 11 0) 14 17 0) 14 18 (-1)) 37 2 0) 37 3 0) 14 6 0) 14 8 0) 21 0 1) 14 6 1) gs31 M) : AM yX6_pop cX6_pop 1 (some .int) true (fr + 6) 0 0 X [.ref 14] M (fun v M1 => v = some (.int 1) ∧ Cw 126 Lj134 (up2 (up2 (up2 (up2 (up2 (up2 (up2 (up2 (up2 (up2 (up2 (up2 fs42 0 1 0) 14 10 0) 14 11 0) 14 17 0) 14 18 (-1)) 37 2 0) 37 3 0) 14 6 0) 14 8 0) 21 0 1) 14 6 1) 14 6 0) gs31 M1) := by
  refine AM.of false (by decide +kernel) (by intro h; cases h) (Nat.le_of_ble_eq_true rfl) ?_
  show AW X (RX6, cX6_pop, 1, (some .int), false, true, fr + 6) 0 0 0 [(0, .ref 14)] [] M _
  refine a_aload_n dX6_pop_0 rfl rfl ?_
  refine a_dup dX6_pop_1 rfl ?_
  refine a_get (v := .int 1) dX6_pop_2 fl_6_157 (cw_l h0 (by decide)) (cw_s h0 (by decide) rfl) (cw_gi h0 rfl (by decide) (by first | decide +kernel | rfl)) ?_
  refine a_iconst (v := 1) dX6_pop_5 (by decide) ?_
  refine a_isub dX6_pop_6 ?_
  refine a_st (st2 := [.int 0, .ref 14]) (by decide +kernel) ?_
  refine a_putI dX6_pop_7 (Or.inl ⟨fl_6_157, Or.inl rfl⟩) rfl (cw_l h0 (by decide)) (cw_s h0 (by decide) rfl) rfl rfl ?_
  have h1 : Cw 126 Lj134 (up2 (up2 (up2 (up2 (up2 (up2 (up2 (up2 (up2 (up2 (up2 (up2 fs42 0 1 0) 14 10 0) 14 11 0) 14 17 0) 14 18 (-1)) 37 2 0) 37 3 0) 14 6 0) 14 8 0) 21 0 1) 14 6 1) 14 6 0) gs31 (wI M 14 6 0) := cw_I h0 (by decide)
  generalize (wI M 14 6 0) = M1 at h1 ⊢
  refine a_aload_n dX6_pop_10 rfl rfl ?_
  refine a_get (v := .ref 21) dX6_pop_11 fl_6_26 (cw_l h1 (by decide)) (cw_s h1 (by decide) rfl) (cw_g h1 rfl (by decide +kernel)) ?_
  refine a_aload_n dX6_pop_14 rfl rfl ?_
  refine a_get (v := .int 0) dX6_pop_15 fl_6_157 (cw_l h1 (by decide)) (cw_s h1 (by decide) rfl) (cw_gi h1 rfl (by decide) (by first | decide +kernel | rfl)) ?_
  refine a_callS (As := [.ref 21, .int 0]) (st := []) (bc := 0) (bs := 0) (mc := 0) (ms := 0) true dX6_pop_18 mw_X10_at rfl (Or.inr ⟨rfl, mn_X6_144⟩) sm_X10_at rfl (Nat.le_of_ble_eq_true rfl) (z29_X10_at (fr := fr) x hv_x h1) (fun v M2 hq => ?_)
  obtain ⟨rfl, h2⟩ := hq
  show AW X _ 0 0 21 _ [.int 1] _ _
  exact a_iret dX6_pop_21 rfl ⟨rfl, h2⟩
set_option maxHeartbeats 4000000 in
set_option maxRecDepth 100000 in
theorem z32_X6_advance {X : Nat × (Nat → Int32)} {fr : Nat} {M : Mem} (x : Int32) (hv_x : ¬ (x < 0 ∨ 4 ≤ x)) (h0 : Cw 126 Lj134 (up2 (up2 (up2 (up2 (up2 (up2 (up2 (up2 (up2 (up2 (up2 (up2 fs42 0 1 0) 14 10 0) 14 11 0) 14 17 0) 14 18 (-1)) 37 2 0) 37 3 0) 14 6 0) 14 8 0) 21 0 1) 14 6 1) 14 6 0) gs31 M) : AM yX6_advance cX6_advance 1 none true (fr + 4) 0 0 X [.ref 14] M (fun v M1 => v = none ∧ Cw 126 Lj134 (up2 (up2 (up2 (up2 (up2 (up2 (up2 (up2 (up2 (up2 (up2 (up2 (up2 (up2 (up2 fs42 0 1 0) 14 10 0) 14 11 0) 14 17 0) 14 18 (-1)) 37 2 0) 37 3 0) 14 6 0) 14 8 0) 21 0 1) 14 6 1) 14 6 0) 14 12 0) 14 12 0) 14 13 (-3)) (up2 gs31 14 14 0) M1) := by
  refine AM.of false (by decide +kernel) (by intro h; cases h) (Nat.le_of_ble_eq_true rfl) ?_
  show AW X (RX6, cX6_advance, 1, none, false, true, fr + 4) 0 0 0 [(0, .ref 14)] [] M _
  refine a_aload_n dX6_advance_0 rfl rfl ?_
  refine a_get (v := .int 0) dX6_advance_1 fl_6_62 (cw_l h0 (by decide)) (cw_s h0 (by decide) rfl) (cw_gi h0 rfl (by decide) (by first | decide +kernel | rfl)) ?_
  refine a_aload_n dX6_advance_4 rfl rfl ?_
  refine a_get (v := .int 0) dX6_advance_5 fl_6_59 (cw_l h0 (by decide)) (cw_s h0 (by decide) rfl) (cw_gi h0 rfl (by decide) (by first | decide +kernel | rfl)) ?_
  refine a_icmp_ge 38 dX6_advance_8 (by decide) (fun _ => ?_) (fun c => absurd (by decide) c)
  refine a_aload_n dX6_advance_38 rfl rfl ?_
  refine a_aload_n dX6_advance_39 rfl rfl ?_
  refine a_get (v := .int 0) dX6_advance_40 fl_6_62 (cw_l h0 (by decide)) (cw_s h0 (by decide) rfl) (cw_gi h0 rfl (by decide) (by first | decide +kernel | rfl)) ?_
  refine a_putI dX6_advance_43 (Or.inl ⟨fl_6_68, Or.inl rfl⟩) rfl (cw_l h0 (by decide)) (cw_s h0 (by decide) rfl) rfl rfl ?_
  have h1 : Cw 126 Lj134 (up2 (up2 (up2 (up2 (up2 (up2 (up2 (up2 (up2 (up2 (up2 (up2 (up2 fs42 0 1 0) 14 10 0) 14 11 0) 14 17 0) 14 18 (-1)) 37 2 0) 37 3 0) 14 6 0) 14 8 0) 21 0 1) 14 6 1) 14 6 0) 14 12 0) gs31 (wI M 14 12 0) := cw_I h0 (by decide)
  generalize (wI M 14 12 0) = M1 at h1 ⊢
  refine a_aload_n dX6_advance_46 rfl rfl ?_
  refine a_lconst (v := 0) dX6_advance_47 (by decide) ?_
  refine a_putJ dX6_advance_48 (Or.inl ⟨fl_6_71, Or.inl rfl⟩) rfl (cw_l h1 (by decide)) (cw_s h1 (by decide) rfl) ?_
  have h2 : Cw 126 Lj134 (up2 (up2 (up2 (up2 (up2 (up2 (up2 (up2 (up2 (up2 (up2 (up2 (up2 fs42 0 1 0) 14 10 0) 14 11 0) 14 17 0) 14 18 (-1)) 37 2 0) 37 3 0) 14 6 0) 14 8 0) 21 0 1) 14 6 1) 14 6 0) 14 12 0) (up2 gs31 14 14 0) (wJ M1 14 14 0) := cw_J h1 (by decide)
  generalize (wJ M1 14 14 0) = M2 at h2 ⊢
  refine a_aload_n dX6_advance_51 rfl rfl ?_
  refine a_get (v := .int 0) dX6_advance_52 fl_6_62 (cw_l h2 (by decide)) (cw_s h2 (by decide) rfl) (cw_gi h2 rfl (by decide) (by first | decide +kernel | rfl)) ?_
  refine a_aload_n dX6_advance_55 rfl rfl ?_
  refine a_get (v := .int 0) dX6_advance_56 fl_6_59 (cw_l h2 (by decide)) (cw_s h2 (by decide) rfl) (cw_gi h2 rfl (by decide) (by first | decide +kernel | rfl)) ?_
  refine a_icmp_lt 77 dX6_advance_59 (by decide) (fun c => absurd c (by decide)) (fun _ => ?_)
  refine a_aload_n dX6_advance_62 rfl rfl ?_
  refine a_aload_n dX6_advance_63 rfl rfl ?_
  refine a_get (v := .int 0) dX6_advance_64 fl_6_59 (cw_l h2 (by decide)) (cw_s h2 (by decide) rfl) (cw_gi h2 rfl (by decide) (by first | decide +kernel | rfl)) ?_
  refine a_putI dX6_advance_67 (Or.inl ⟨fl_6_68, Or.inl rfl⟩) rfl (cw_l h2 (by decide)) (cw_s h2 (by decide) rfl) rfl rfl ?_
  have h3 : Cw 126 Lj134 (up2 (up2 (up2 (up2 (up2 (up2 (up2 (up2 (up2 (up2 (up2 (up2 (up2 (up2 fs42 0 1 0) 14 10 0) 14 11 0) 14 17 0) 14 18 (-1)) 37 2 0) 37 3 0) 14 6 0) 14 8 0) 21 0 1) 14 6 1) 14 6 0) 14 12 0) 14 12 0) (up2 gs31 14 14 0) (wI M2 14 12 0) := cw_I h2 (by decide)
  generalize (wI M2 14 12 0) = M3 at h3 ⊢
  refine a_aload_n dX6_advance_70 rfl rfl ?_
  refine a_bipush (v := (-3)) dX6_advance_71 (by decide) ?_
  refine a_putI dX6_advance_73 (Or.inl ⟨fl_6_75, Or.inl rfl⟩) rfl (cw_l h3 (by decide)) (cw_s h3 (by decide) rfl) rfl rfl ?_
  have h4 : Cw 126 Lj134 (up2 (up2 (up2 (up2 (up2 (up2 (up2 (up2 (up2 (up2 (up2 (up2 (up2 (up2 (up2 fs42 0 1 0) 14 10 0) 14 11 0) 14 17 0) 14 18 (-1)) 37 2 0) 37 3 0) 14 6 0) 14 8 0) 21 0 1) 14 6 1) 14 6 0) 14 12 0) 14 12 0) 14 13 (-3)) (up2 gs31 14 14 0) (wI M3 14 13 (-3)) := cw_I h3 (by decide)
  generalize (wI M3 14 13 (-3)) = M4 at h4 ⊢
  exact a_vret dX6_advance_76 rfl ⟨rfl, h4⟩
set_option maxHeartbeats 4000000 in
set_option maxRecDepth 100000 in
theorem z33_X6_atName {X : Nat × (Nat → Int32)} {fr : Nat} {M : Mem} (x : Int32) (hv_x : ¬ (x < 0 ∨ 4 ≤ x)) (h0 : Cw 126 Lj134 (up2 (up2 (up2 (up2 (up2 (up2 (up2 (up2 (up2 (up2 (up2 (up2 (up2 (up2 (up2 fs42 0 1 0) 14 10 0) 14 11 0) 14 17 0) 14 18 (-1)) 37 2 0) 37 3 0) 14 6 0) 14 8 0) 21 0 1) 14 6 1) 14 6 0) 14 12 0) 14 12 0) 14 13 (-3)) (up2 gs31 14 14 0) M) : AM yX6_atName cX6_atName 1 (some .boolean) true (fr + 4) 0 0 X [.ref 14] M (fun v M1 => v = some (.int 0) ∧ Cw 126 Lj134 (up2 (up2 (up2 (up2 (up2 (up2 (up2 (up2 (up2 (up2 (up2 (up2 (up2 (up2 (up2 fs42 0 1 0) 14 10 0) 14 11 0) 14 17 0) 14 18 (-1)) 37 2 0) 37 3 0) 14 6 0) 14 8 0) 21 0 1) 14 6 1) 14 6 0) 14 12 0) 14 12 0) 14 13 (-3)) (up2 gs31 14 14 0) M1) := by
  refine AM.of false (by decide +kernel) (by intro h; cases h) (Nat.le_of_ble_eq_true rfl) ?_
  show AW X (RX6, cX6_atName, 1, (some .boolean), false, true, fr + 4) 0 0 0 [(0, .ref 14)] [] M _
  refine a_aload_n dX6_atName_0 rfl rfl ?_
  refine a_get (v := .int (-3)) dX6_atName_1 fl_6_75 (cw_l h0 (by decide)) (cw_s h0 (by decide) rfl) (cw_gi h0 rfl (by decide) (by first | decide +kernel | rfl)) ?_
  refine a_iconst (v := (-1)) dX6_atName_4 (by decide) ?_
  refine a_icmp_lt 29 dX6_atName_5 (by decide) (fun _ => ?_) (fun c => absurd (by decide) c)
  refine a_iconst (v := 0) dX6_atName_29 (by decide) ?_
  exact a_zret dX6_atName_30 rfl (by decide) ⟨rfl, h0⟩
set_option maxHeartbeats 4000000 in
set_option maxRecDepth 100000 in
theorem z34_X6_fail {X : Nat × (Nat → Int32)} {fr : Nat} {M : Mem} (x : Int32) (hv_x : ¬ (x < 0 ∨ 4 ≤ x)) (h0 : Cw 126 Lj134 (up2 (up2 (up2 (up2 (up2 (up2 (up2 (up2 (up2 (up2 (up2 (up2 (up2 (up2 (up2 fs42 0 1 0) 14 10 0) 14 11 0) 14 17 0) 14 18 (-1)) 37 2 0) 37 3 0) 14 6 0) 14 8 0) 21 0 1) 14 6 1) 14 6 0) 14 12 0) 14 12 0) 14 13 (-3)) (up2 gs31 14 14 0) M) : AM yX6_fail cX6_fail 3 (some .boolean) true (fr + 4) 0 0 X [.ref 14, .int 1, .int 0] M (fun v M1 => v = some (.int 0) ∧ Cw 126 Lj134 (up2 (up2 (up2 (up2 (up2 (up2 (up2 (up2 (up2 (up2 (up2 (up2 (up2 (up2 (up2 (up2 (up2 fs42 0 1 0) 14 10 0) 14 11 0) 14 17 0) 14 18 (-1)) 37 2 0) 37 3 0) 14 6 0) 14 8 0) 21 0 1) 14 6 1) 14 6 0) 14 12 0) 14 12 0) 14 13 (-3)) 14 17 1) 14 18 0) (up2 gs31 14 14 0) M1) := by
  refine AM.of false (by decide +kernel) (by intro h; cases h) (Nat.le_of_ble_eq_true rfl) ?_
  show AW X (RX6, cX6_fail, 3, (some .boolean), false, true, fr + 4) 0 0 0 [(0, .ref 14), (1, .int 1), (2, .int 0)] [] M _
  refine a_aload_n dX6_fail_0 rfl rfl ?_
  refine a_iload_n dX6_fail_1 rfl rfl ?_
  refine a_putI dX6_fail_2 (Or.inl ⟨fl_6_65, Or.inl rfl⟩) rfl (cw_l h0 (by decide)) (cw_s h0 (by decide) rfl) rfl rfl ?_
  have h1 : Cw 126 Lj134 (up2 (up2 (up2 (up2 (up2 (up2 (up2 (up2 (up2 (up2 (up2 (up2 (up2 (up2 (up2 (up2 fs42 0 1 0) 14 10 0) 14 11 0) 14 17 0) 14 18 (-1)) 37 2 0) 37 3 0) 14 6 0) 14 8 0) 21 0 1) 14 6 1) 14 6 0) 14 12 0) 14 12 0) 14 13 (-3)) 14 17 1) (up2 gs31 14 14 0) (wI M 14 17 1) := cw_I h0 (by decide)
  generalize (wI M 14 17 1) = M1 at h1 ⊢
  refine a_aload_n dX6_fail_5 rfl rfl ?_
  refine a_iload_n dX6_fail_6 rfl rfl ?_
  refine a_putI dX6_fail_7 (Or.inl ⟨fl_6_35, Or.inl rfl⟩) rfl (cw_l h1 (by decide)) (cw_s h1 (by decide) rfl) rfl rfl ?_
  have h2 : Cw 126 Lj134 (up2 (up2 (up2 (up2 (up2 (up2 (up2 (up2 (up2 (up2 (up2 (up2 (up2 (up2 (up2 (up2 (up2 fs42 0 1 0) 14 10 0) 14 11 0) 14 17 0) 14 18 (-1)) 37 2 0) 37 3 0) 14 6 0) 14 8 0) 21 0 1) 14 6 1) 14 6 0) 14 12 0) 14 12 0) 14 13 (-3)) 14 17 1) 14 18 0) (up2 gs31 14 14 0) (wI M1 14 18 0) := cw_I h1 (by decide)
  generalize (wI M1 14 18 0) = M2 at h2 ⊢
  refine a_iconst (v := 0) dX6_fail_10 (by decide) ?_
  exact a_zret dX6_fail_11 rfl (by decide) ⟨rfl, h2⟩
set_option maxHeartbeats 4000000 in
set_option maxRecDepth 100000 in
theorem z31_X6_readFirstWord {X : Nat × (Nat → Int32)} {fr : Nat} {M : Mem} (x : Int32) (hv_x : ¬ (x < 0 ∨ 4 ≤ x)) (h0 : Cw 126 Lj134 (up2 (up2 (up2 (up2 (up2 (up2 (up2 (up2 (up2 (up2 (up2 (up2 fs42 0 1 0) 14 10 0) 14 11 0) 14 17 0) 14 18 (-1)) 37 2 0) 37 3 0) 14 6 0) 14 8 0) 21 0 1) 14 6 1) 14 6 0) gs31 M) : AM yX6_readFirstWord cX6_readFirstWord 7 (some .boolean) true (fr + 5) 0 0 X [.ref 14, .ref 10, .ref 37] M (fun v M1 => v = some (.int 0) ∧ Cw 126 Lj134 (up2 (up2 (up2 (up2 (up2 (up2 (up2 (up2 (up2 (up2 (up2 (up2 (up2 (up2 (up2 (up2 (up2 fs42 0 1 0) 14 10 0) 14 11 0) 14 17 0) 14 18 (-1)) 37 2 0) 37 3 0) 14 6 0) 14 8 0) 21 0 1) 14 6 1) 14 6 0) 14 12 0) 14 12 0) 14 13 (-3)) 14 17 1) 14 18 0) (up2 gs31 14 14 0) M1) := by
  refine AM.of false (by decide +kernel) (by intro h; cases h) (Nat.le_of_ble_eq_true rfl) ?_
  show AW X (RX6, cX6_readFirstWord, 7, (some .boolean), false, true, fr + 5) 0 0 0 [(0, .ref 14), (1, .ref 10), (2, .ref 37)] [] M _
  refine a_aload_n dX6_readFirstWord_0 rfl rfl ?_
  refine a_callV (As := []) (st := []) (a := 14) (ci := 6) (bc := 0) (bs := 0) (mc := 0) (ms := 0) false dX6_readFirstWord_1 mw_X6_advance rfl (Or.inl ⟨rfl, ml_X6_97⟩) im_X6_advance se_X6_advance (by decide) (cw_l h0 (by decide)) (cw_s h0 (by decide) rfl) rfl (Nat.le_of_ble_eq_true rfl) (z32_X6_advance (fr := fr) x hv_x h0) (fun v M1 hq => ?_)
  obtain ⟨rfl, h1⟩ := hq
  refine a_aload_n dX6_readFirstWord_4 rfl rfl ?_
  refine a_get (v := .int (-3)) dX6_readFirstWord_5 fl_6_75 (cw_l h1 (by decide)) (cw_s h1 (by decide) rfl) (cw_gi h1 rfl (by decide) (by first | decide +kernel | rfl)) ?_
  refine a_bipush (v := 11) dX6_readFirstWord_8 (by decide) ?_
  refine a_isub dX6_readFirstWord_10 ?_
  refine a_st (st2 := [.int (-14)]) (by decide +kernel) ?_
  refine a_istore_n dX6_readFirstWord_11 rfl (Nat.le_of_ble_eq_true rfl) (lv2 := [(3, .int (-14)), (0, .ref 14), (1, .ref 10), (2, .ref 37)]) rfl ?_
  refine a_aload_n dX6_readFirstWord_12 rfl rfl ?_
  refine a_callV (As := []) (st := []) (a := 14) (ci := 6) (bc := 0) (bs := 0) (mc := 0) (ms := 0) false dX6_readFirstWord_13 mw_X6_atName rfl (Or.inl ⟨rfl, ml_X6_104⟩) im_X6_atName se_X6_atName (by decide) (cw_l h1 (by decide)) (cw_s h1 (by decide) rfl) rfl (Nat.le_of_ble_eq_true rfl) (z33_X6_atName (fr := fr) x hv_x h1) (fun v M2 hq => ?_)
  obtain ⟨rfl, h2⟩ := hq
  show AW X _ 0 0 16 _ [.int 0] _ _
  refine a_istore dX6_readFirstWord_16 (Nat.le_of_ble_eq_true rfl) (lv2 := [(4, .int 0), (3, .int (-14)), (0, .ref 14), (1, .ref 10), (2, .ref 37)]) rfl ?_
  refine a_iload dX6_readFirstWord_18 rfl ?_
  refine a_if_ne 44 dX6_readFirstWord_20 (by decide) (fun c => absurd (by decide) c) (fun _ => ?_)
  refine a_iload_n dX6_readFirstWord_23 rfl rfl ?_
  refine a_iconst (v := 2) dX6_readFirstWord_24 (by decide) ?_
  refine a_icmp_lt 34 dX6_readFirstWord_25 (by decide) (fun _ => ?_) (fun c => absurd (by decide) c)
  refine a_aload_n dX6_readFirstWord_34 rfl rfl ?_
  refine a_iconst (v := 1) dX6_readFirstWord_35 (by decide) ?_
  refine a_aload_n dX6_readFirstWord_36 rfl rfl ?_
  refine a_get (v := .int 0) dX6_readFirstWord_37 fl_6_68 (cw_l h2 (by decide)) (cw_s h2 (by decide) rfl) (cw_gi h2 rfl (by decide) (by first | decide +kernel | rfl)) ?_
  refine a_callV (As := [.int 1, .int 0]) (st := []) (a := 14) (ci := 6) (bc := 0) (bs := 0) (mc := 0) (ms := 0) false dX6_readFirstWord_40 mw_X6_fail rfl (Or.inl ⟨rfl, ml_X6_107⟩) im_X6_fail se_X6_fail (by decide) (cw_l h2 (by decide)) (cw_s h2 (by decide) rfl) rfl (Nat.le_of_ble_eq_true rfl) (z34_X6_fail (fr := fr) x hv_x h2) (fun v M3 hq => ?_)
  obtain ⟨rfl, h3⟩ := hq
  show AW X _ 0 0 43 _ [.int 0] _ _
  exact a_zret dX6_readFirstWord_43 rfl (by decide) ⟨rfl, h3⟩
set_option maxHeartbeats 4000000 in
set_option maxRecDepth 100000 in
theorem z30_X6_readWanted {X : Nat × (Nat → Int32)} {fr : Nat} {M : Mem} (x : Int32) (hv_x : ¬ (x < 0 ∨ 4 ≤ x)) (h0 : Cw 126 Lj134 (up2 (up2 (up2 (up2 (up2 (up2 (up2 (up2 (up2 (up2 (up2 (up2 fs42 0 1 0) 14 10 0) 14 11 0) 14 17 0) 14 18 (-1)) 37 2 0) 37 3 0) 14 6 0) 14 8 0) 21 0 1) 14 6 1) 14 6 0) gs31 M) : AM yX6_readWanted cX6_readWanted 5 (some .boolean) true (fr + 6) 0 0 X [.ref 14, .int 1, .ref 10, .ref 37] M (fun v M1 => v = some (.int 0) ∧ Cw 126 Lj134 (up2 (up2 (up2 (up2 (up2 (up2 (up2 (up2 (up2 (up2 (up2 (up2 (up2 (up2 (up2 (up2 (up2 fs42 0 1 0) 14 10 0) 14 11 0) 14 17 0) 14 18 (-1)) 37 2 0) 37 3 0) 14 6 0) 14 8 0) 21 0 1) 14 6 1) 14 6 0) 14 12 0) 14 12 0) 14 13 (-3)) 14 17 1) 14 18 0) (up2 gs31 14 14 0) M1) := by
  refine AM.of false (by decide +kernel) (by intro h; cases h) (Nat.le_of_ble_eq_true rfl) ?_
  show AW X (RX6, cX6_readWanted, 5, (some .boolean), false, true, fr + 6) 0 0 0 [(0, .ref 14), (1, .int 1), (2, .ref 10), (3, .ref 37)] [] M _
  refine a_iload_n dX6_readWanted_0 rfl rfl ?_
  refine a_tableOut 75 dX6_readWanted_1 (by decide +kernel) (by decide) ?_
  refine a_aload_n dX6_readWanted_75 rfl rfl ?_
  refine a_aload_n dX6_readWanted_76 rfl rfl ?_
  refine a_aload_n dX6_readWanted_77 rfl rfl ?_
  refine a_callV (As := [.ref 10, .ref 37]) (st := []) (a := 14) (ci := 6) (bc := 0) (bs := 0) (mc := 0) (ms := 0) false dX6_readWanted_78 mw_X6_readFirstWord rfl (Or.inl ⟨rfl, ml_X6_183⟩) im_X6_readFirstWord se_X6_readFirstWord (by decide) (cw_l h0 (by decide)) (cw_s h0 (by decide) rfl) rfl (Nat.le_of_ble_eq_true rfl) (z31_X6_readFirstWord (fr := fr) x hv_x h0) (fun v M1 hq => ?_)
  obtain ⟨rfl, h1⟩ := hq
  show AW X _ 0 0 81 _ [.int 0] _ _
  exact a_zret dX6_readWanted_81 rfl (by decide) ⟨rfl, h1⟩
set_option maxHeartbeats 4000000 in
set_option maxRecDepth 100000 in
theorem z24_X6_readTerm {X : Nat × (Nat → Int32)} {fr : Nat} {M : Mem} (x : Int32) (hv_x : ¬ (x < 0 ∨ 4 ≤ x)) (h0 : Cw 126 Lj134 (up2 fs42 0 1 0) gs31 M) : AM yX6_readTerm cX6_readTerm 5 (some .boolean) true (fr + 7) 0 0 X [.ref 14, .int 0, .ref 10, .ref 37] M (fun v M1 => v = some (.int 0) ∧ Cw 126 Lj134 (up2 (up2 (up2 (up2 (up2 (up2 (up2 (up2 (up2 (up2 (up2 (up2 (up2 (up2 (up2 (up2 (up2 fs42 0 1 0) 14 10 0) 14 11 0) 14 17 0) 14 18 (-1)) 37 2 0) 37 3 0) 14 6 0) 14 8 0) 21 0 1) 14 6 1) 14 6 0) 14 12 0) 14 12 0) 14 13 (-3)) 14 17 1) 14 18 0) (up2 gs31 14 14 0) M1) := by
  refine AM.of false (by decide +kernel) (by intro h; cases h) (Nat.le_of_ble_eq_true rfl) ?_
  show AW X (RX6, cX6_readTerm, 5, (some .boolean), false, true, fr + 7) 0 0 0 [(0, .ref 14), (1, .int 0), (2, .ref 10), (3, .ref 37)] [] M _
  refine a_aload_n dX6_readTerm_0 rfl rfl ?_
  refine a_iload_n dX6_readTerm_1 rfl rfl ?_
  refine a_callV (As := [.int 0]) (st := []) (a := 14) (ci := 6) (bc := 0) (bs := 0) (mc := 0) (ms := 0) false dX6_readTerm_2 mw_X6_begin rfl (Or.inl ⟨rfl, ml_X6_90⟩) im_X6_begin se_X6_begin (by decide) (cw_l h0 (by decide)) (cw_s h0 (by decide) rfl) rfl (Nat.le_of_ble_eq_true rfl) (z25_X6_begin (fr := fr) x hv_x h0) (fun v M1 hq => ?_)
  obtain ⟨rfl, h1⟩ := hq
  refine a_aload_n dX6_readTerm_5 rfl rfl ?_
  refine a_callV (As := []) (st := []) (a := 37) (ci := 9) (bc := 0) (bs := 0) (mc := 0) (ms := 0) false dX6_readTerm_6 mw_X9_clear rfl (Or.inl ⟨rfl, ml_X6_154⟩) im_X9_clear se_X9_clear (by decide) (cw_l h1 (by decide)) (cw_s h1 (by decide) rfl) rfl (Nat.le_of_ble_eq_true rfl) (z26_X9_clear (fr := fr) x hv_x h1) (fun v M2 hq => ?_)
  obtain ⟨rfl, h2⟩ := hq
  refine a_aload_n dX6_readTerm_9 rfl rfl ?_
  refine a_iconst (v := 0) dX6_readTerm_10 (by decide) ?_
  refine a_putI dX6_readTerm_11 (Or.inl ⟨fl_6_157, Or.inl rfl⟩) rfl (cw_l h2 (by decide)) (cw_s h2 (by decide) rfl) rfl rfl ?_
  have h3 : Cw 126 Lj134 (up2 (up2 (up2 (up2 (up2 (up2 (up2 (up2 fs42 0 1 0) 14 10 0) 14 11 0) 14 17 0) 14 18 (-1)) 37 2 0) 37 3 0) 14 6 0) gs31 (wI M2 14 6 0) := cw_I h2 (by decide)
  generalize (wI M2 14 6 0) = M3 at h3 ⊢
  refine a_aload_n dX6_readTerm_14 rfl rfl ?_
  refine a_iconst (v := 0) dX6_readTerm_15 (by decide) ?_
  refine a_putI dX6_readTerm_16 (Or.inl ⟨fl_6_160, Or.inl rfl⟩) rfl (cw_l h3 (by decide)) (cw_s h3 (by decide) rfl) rfl rfl ?_
  have h4 : Cw 126 Lj134 (up2 (up2 (up2 (up2 (up2 (up2 (up2 (up2 (up2 fs42 0 1 0) 14 10 0) 14 11 0) 14 17 0) 14 18 (-1)) 37 2 0) 37 3 0) 14 6 0) 14 8 0) gs31 (wI M3 14 8 0) := cw_I h3 (by decide)
  generalize (wI M3 14 8 0) = M4 at h4 ⊢
  refine a_aload_n dX6_readTerm_19 rfl rfl ?_
  refine a_iconst (v := 1) dX6_readTerm_20 (by decide) ?_
  refine a_callV (As := [.int 1]) (st := []) (a := 14) (ci := 6) (bc := 0) (bs := 0) (mc := 0) (ms := 0) false dX6_readTerm_21 mw_X6_push rfl (Or.inl ⟨rfl, ml_X6_163⟩) im_X6_push se_X6_push (by decide) (cw_l h4 (by decide)) (cw_s h4 (by decide) rfl) rfl (Nat.le_of_ble_eq_true rfl) (z27_X6_push (fr := fr) x hv_x h4) (fun v M5 hq => ?_)
  obtain ⟨rfl, h5⟩ := hq
  refine a_iconst (v := 0) dX6_readTerm_24 (by decide) ?_
  refine a_istore dX6_readTerm_25 (Nat.le_of_ble_eq_true rfl) (lv2 := [(4, .int 0), (0, .ref 14), (1, .int 0), (2, .ref 10), (3, .ref 37)]) rfl ?_
  refine a_iload dX6_readTerm_27 rfl ?_
  refine a_aload_n dX6_readTerm_29 rfl rfl ?_
  refine a_get (v := .ref 21) dX6_readTerm_30 fl_6_26 (cw_l h5 (by decide)) (cw_s h5 (by decide) rfl) (cw_g h5 rfl (by decide +kernel)) ?_
  refine a_alen (v := 854) (by decide) dX6_readTerm_33 (cw_l h5 (by decide)) (cw_s h5 (by decide) rfl) (by decide) ?_
  refine a_icmp_ge 65 dX6_readTerm_34 (by decide) (fun c => absurd c (by decide)) (fun _ => ?_)
  refine a_aload_n dX6_readTerm_37 rfl rfl ?_
  refine a_get (v := .int 1) dX6_readTerm_38 fl_6_157 (cw_l h5 (by decide)) (cw_s h5 (by decide) rfl) (cw_gi h5 rfl (by decide) (by first | decide +kernel | rfl)) ?_
  refine a_if_le 65 dX6_readTerm_41 (by decide) (fun c => absurd c (by decide)) (fun _ => ?_)
  refine a_aload_n dX6_readTerm_44 rfl rfl ?_
  refine a_aload_n dX6_readTerm_45 rfl rfl ?_
  refine a_callV (As := []) (st := [.ref 14]) (a := 14) (ci := 6) (bc := 0) (bs := 0) (mc := 0) (ms := 0) false dX6_readTerm_46 mw_X6_pop rfl (Or.inl ⟨rfl, ml_X6_166⟩) im_X6_pop se_X6_pop (by decide) (cw_l h5 (by decide)) (cw_s h5 (by decide) rfl) rfl (Nat.le_of_ble_eq_true rfl) (z28_X6_pop (fr := fr) x hv_x h5) (fun v M6 hq => ?_)
  obtain ⟨rfl, h6⟩ := hq
  show AW X _ 0 0 49 _ [.int 1, .ref 14] _ _
  refine a_aload_n dX6_readTerm_49 rfl rfl ?_
  refine a_aload_n dX6_readTerm_50 rfl rfl ?_
  refine a_callV (As := [.int 1, .ref 10, .ref 37]) (st := []) (a := 14) (ci := 6) (bc := 0) (bs := 0) (mc := 0) (ms := 0) false dX6_readTerm_51 mw_X6_readWanted rfl (Or.inl ⟨rfl, ml_X6_169⟩) im_X6_readWanted se_X6_readWanted (by decide) (cw_l h6 (by decide)) (cw_s h6 (by decide) rfl) rfl (Nat.le_of_ble_eq_true rfl) (z30_X6_readWanted (fr := fr) x hv_x h6) (fun v M7 hq => ?_)
  obtain ⟨rfl, h7⟩ := hq
  show AW X _ 0 0 54 _ [.int 0] _ _
  refine a_if_ne 59 dX6_readTerm_54 (by decide) (fun c => absurd (by decide) c) (fun _ => ?_)
  refine a_iconst (v := 0) dX6_readTerm_57 (by decide) ?_
  exact a_zret dX6_readTerm_58 rfl (by decide) ⟨rfl, h7⟩
set_option maxHeartbeats 4000000 in
set_option maxRecDepth 100000 in
theorem p_proof_0 {X : Nat × (Nat → Int32)} {fr : Nat} {M : Mem} (x : Int32) (hv_x : ¬ (x < 0 ∨ 4 ≤ x)) (h0 : Cw 126 Lj134 fs42 gs31 M) : AM yX10_proof cX10_proof 4 (some .int) true (fr + 8) 0 0 X [.ref 0, .int x, .int 0] M (fun v M1 => v = some (.int (-31)) ∧ Fm M1) := by
  refine AM.of false (by decide +kernel) (by intro h; cases h) (Nat.le_of_ble_eq_true rfl) ?_
  show AW X (RX10, cX10_proof, 4, (some .int), false, true, fr + 8) 0 0 0 [(0, .ref 0), (1, .int x), (2, .int 0)] [] M _
  refine a_iload_n dX10_proof_0 rfl rfl ?_
  refine a_callS (As := [.int x]) (st := []) (bc := 0) (bs := 0) (mc := 0) (ms := 0) false dX10_proof_1 mw_X10_noSlot rfl (Or.inl ⟨rfl, ml_X10_151⟩) sm_X10_noSlot rfl (Nat.le_of_ble_eq_true rfl) (k_noSlot (fr := fr + 7) x) (fun v M1 hq => ?_)
  obtain ⟨rfl, hM1⟩ := hq
  rw [hM1]
  clear hM1 M1
  refine a_st (st2 := [.int 0]) (by rw [if_neg hv_x]; rfl) ?_
  refine a_if_eq 10 dX10_proof_4 (by decide) (fun _ => ?_) (fun c => absurd (by decide) c)
  refine a_aload_n dX10_proof_10 rfl rfl ?_
  refine a_iload_n dX10_proof_11 rfl rfl ?_
  refine a_callV (As := [.int 0]) (st := []) (a := 0) (ci := 10) (bc := 0) (bs := 0) (mc := 0) (ms := 0) false dX10_proof_12 mw_X10_tapeLacks rfl (Or.inl ⟨rfl, ml_X10_119⟩) im_X10_tapeLacks se_X10_tapeLacks (by decide) (cw_l h0 (by decide)) (cw_s h0 (by decide) rfl) rfl (Nat.le_of_ble_eq_true rfl) (z23_X10_tapeLacks (fr := fr) x hv_x h0) (fun v M1 hq => ?_)
  obtain ⟨rfl, h1⟩ := hq
  show AW X _ 0 0 15 _ [.int 0] _ _
  refine a_if_eq 21 dX10_proof_15 (by decide) (fun _ => ?_) (fun c => absurd (by decide) c)
  refine a_aload_n dX10_proof_21 rfl rfl ?_
  refine a_iconst (v := 0) dX10_proof_22 (by decide) ?_
  refine a_putI dX10_proof_23 (Or.inl ⟨fl_10_112, Or.inl rfl⟩) rfl (cw_l h1 (by decide)) (cw_s h1 (by decide) rfl) rfl rfl ?_
  have h2 : Cw 126 Lj134 (up2 fs42 0 1 0) gs31 (wI M1 0 1 0) := cw_I h1 (by decide)
  generalize (wI M1 0 1 0) = M2 at h2 ⊢
  refine a_aload_n dX10_proof_26 rfl rfl ?_
  refine a_get (v := .ref 14) dX10_proof_27 fl_10_32 (cw_l h2 (by decide)) (cw_s h2 (by decide) rfl) (cw_g h2 rfl (by decide +kernel)) ?_
  refine a_iload_n dX10_proof_30 rfl rfl ?_
  refine a_aload_n dX10_proof_31 rfl rfl ?_
  refine a_get (v := .ref 10) dX10_proof_32 fl_10_23 (cw_l h2 (by decide)) (cw_s h2 (by decide) rfl) (cw_g h2 rfl (by decide +kernel)) ?_
  refine a_aload_n dX10_proof_35 rfl rfl ?_
  refine a_get (v := .ref 37) dX10_proof_36 fl_10_43 (cw_l h2 (by decide)) (cw_s h2 (by decide) rfl) (cw_g h2 rfl (by decide +kernel)) ?_
  refine a_callV (As := [.int 0, .ref 10, .ref 37]) (st := []) (a := 14) (ci := 6) (bc := 0) (bs := 0) (mc := 0) (ms := 0) false dX10_proof_39 mw_X6_readTerm rfl (Or.inl ⟨rfl, ml_X10_154⟩) im_X6_readTerm se_X6_readTerm (by decide) (cw_l h2 (by decide)) (cw_s h2 (by decide) rfl) rfl (Nat.le_of_ble_eq_true rfl) (z24_X6_readTerm (fr := fr) x hv_x h2) (fun v M3 hq => ?_)
  obtain ⟨rfl, h3⟩ := hq
  show AW X _ 0 0 42 _ [.int 0] _ _
  refine a_if_ne 56 dX10_proof_42 (by decide) (fun c => absurd (by decide) c) (fun _ => ?_)
  refine a_bipush (v := (-30)) dX10_proof_45 (by decide) ?_
  refine a_aload_n dX10_proof_47 rfl rfl ?_
  refine a_get (v := .ref 14) dX10_proof_48 fl_10_32 (cw_l h3 (by decide)) (cw_s h3 (by decide) rfl) (cw_g h3 rfl (by decide +kernel)) ?_
  refine a_getN (v := .int 1) dX10_proof_51 fn_10_126 (cw_l h3 (by decide)) (cw_s h3 (by decide) rfl) (cw_gi h3 rfl (by decide) (by first | decide +kernel | rfl)) ?_
  refine a_isub dX10_proof_54 ?_
  refine a_st (st2 := [.int (-31)]) (by decide +kernel) ?_
  exact a_iret dX10_proof_55 rfl ⟨by first | rfl | decide +kernel | simp [*], fm_of h3 (fun a k ha => by first | rfl | (repeat rw [up2_a _ _ _ _ (by omega)]))⟩
set_option maxHeartbeats 4000000 in
set_option maxRecDepth 100000 in
theorem z35_X10_tapeLacks {X : Nat × (Nat → Int32)} {fr : Nat} {M : Mem} (x : Int32) (hv_x : ¬ (x < 0 ∨ 4 ≤ x)) (n : Int32) (hn : n < 0) (h0 : Cw 126 Lj134 fs42 gs31 M) : AM yX10_tapeLacks cX10_tapeLacks 2 (some .boolean) true (fr + 7) 0 0 X [.ref 0, .int n] M (fun v M1 => v = some (.int 1) ∧ Cw 126 Lj134 fs42 gs31 M1) := by
  refine AM.of false (by decide +kernel) (by intro h; cases h) (Nat.le_of_ble_eq_true rfl) ?_
  show AW X (RX10, cX10_tapeLacks, 2, (some .boolean), false, true, fr + 7) 0 0 0 [(0, .ref 0), (1, .int n)] [] M _
  refine a_iload_n dX10_tapeLacks_0 rfl rfl ?_
  refine a_if_lt 12 dX10_tapeLacks_1 (by decide) (fun _ => ?_) (fun c => absurd (hn) c)
  refine a_iconst (v := 1) dX10_tapeLacks_12 (by decide) ?_
  refine a_goto 17 dX10_tapeLacks_13 (by decide) ?_
  exact a_zret dX10_tapeLacks_17 rfl (by decide) ⟨rfl, h0⟩
set_option maxHeartbeats 4000000 in
set_option maxRecDepth 100000 in
theorem p_proof_n {X : Nat × (Nat → Int32)} {fr : Nat} {M : Mem} (x : Int32) (hv_x : ¬ (x < 0 ∨ 4 ≤ x)) (n : Int32) (hn : n < 0) (h0 : Cw 126 Lj134 fs42 gs31 M) : AM yX10_proof cX10_proof 4 (some .int) true (fr + 8) 0 0 X [.ref 0, .int x, .int n] M (fun v M1 => v = some (.int (-3)) ∧ Fm M1) := by
  refine AM.of false (by decide +kernel) (by intro h; cases h) (Nat.le_of_ble_eq_true rfl) ?_
  show AW X (RX10, cX10_proof, 4, (some .int), false, true, fr + 8) 0 0 0 [(0, .ref 0), (1, .int x), (2, .int n)] [] M _
  refine a_iload_n dX10_proof_0 rfl rfl ?_
  refine a_callS (As := [.int x]) (st := []) (bc := 0) (bs := 0) (mc := 0) (ms := 0) false dX10_proof_1 mw_X10_noSlot rfl (Or.inl ⟨rfl, ml_X10_151⟩) sm_X10_noSlot rfl (Nat.le_of_ble_eq_true rfl) (k_noSlot (fr := fr + 7) x) (fun v M1 hq => ?_)
  obtain ⟨rfl, hM1⟩ := hq
  rw [hM1]
  clear hM1 M1
  refine a_st (st2 := [.int 0]) (by rw [if_neg hv_x]; rfl) ?_
  refine a_if_eq 10 dX10_proof_4 (by decide) (fun _ => ?_) (fun c => absurd (by decide) c)
  refine a_aload_n dX10_proof_10 rfl rfl ?_
  refine a_iload_n dX10_proof_11 rfl rfl ?_
  refine a_callV (As := [.int n]) (st := []) (a := 0) (ci := 10) (bc := 0) (bs := 0) (mc := 0) (ms := 0) false dX10_proof_12 mw_X10_tapeLacks rfl (Or.inl ⟨rfl, ml_X10_119⟩) im_X10_tapeLacks se_X10_tapeLacks (by decide) (cw_l h0 (by decide)) (cw_s h0 (by decide) rfl) rfl (Nat.le_of_ble_eq_true rfl) (z35_X10_tapeLacks (fr := fr) x hv_x n hn h0) (fun v M1 hq => ?_)
  obtain ⟨rfl, h1⟩ := hq
  show AW X _ 0 0 15 _ [.int 1] _ _
  refine a_if_eq 21 dX10_proof_15 (by decide) (fun c => absurd c (by decide)) (fun _ => ?_)
  refine a_bipush (v := (-3)) dX10_proof_18 (by decide) ?_
  exact a_iret dX10_proof_20 rfl ⟨by first | rfl | decide +kernel | simp [*], fm_of h1 (fun a k ha => by first | rfl | (repeat rw [up2_a _ _ _ _ (by omega)]))⟩
