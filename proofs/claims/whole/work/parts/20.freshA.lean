set_option maxHeartbeats 4000000 in
set_option maxRecDepth 100000 in
theorem z1_X10_putBytes {X : Nat × (Nat → Int32)} {fr : Nat} {M : Mem} (a : Int32) (b : Int32) (c : Int32) (d : Int32) (e : Int32) (h0 : Cw 126 Lj134 fs42 gs31 M) : AM yX10_putBytes cX10_putBytes 3 none true (fr + 7) 0 0 X [.ref 0, .int a] M (fun v M1 => v = none ∧ Cw 126 Lj134 (up2 (up2 (up2 (up2 (up2 (up2 (up2 (up2 fs42 1 0 ((iushr a 24) &&& 255)) 0 1 1) 1 1 ((iushr a 16) &&& 255)) 0 1 2) 1 2 ((iushr a 8) &&& 255)) 0 1 3) 1 3 ((iushr a 0) &&& 255)) 0 1 4) gs31 M1) := by
  refine AM.of false (by decide +kernel) (by intro h; cases h) (Nat.le_of_ble_eq_true rfl) ?_
  show AW X (RX10, cX10_putBytes, 3, none, false, true, fr + 7) 0 0 0 [(0, .ref 0), (1, .int a)] [] M _
  refine a_bipush (v := 24) dX10_putBytes_0 (by decide) ?_
  refine a_istore_n dX10_putBytes_2 rfl (Nat.le_of_ble_eq_true rfl) (lv2 := [(2, .int 24), (0, .ref 0), (1, .int a)]) rfl ?_
  refine a_iload_n dX10_putBytes_3 rfl rfl ?_
  refine a_if_lt 49 dX10_putBytes_4 (by decide) (fun c => absurd c (by decide)) (fun _ => ?_)
  refine a_aload_n dX10_putBytes_7 rfl rfl ?_
  refine a_get (v := .int 0) dX10_putBytes_8 fl_10_112 (cw_l h0 (by decide)) (cw_s h0 (by decide) rfl) (cw_gi h0 rfl (by decide) (by first | decide +kernel | rfl)) ?_
  refine a_sipush (v := 600) dX10_putBytes_11 (by decide) ?_
  refine a_icmp_ge 49 dX10_putBytes_14 (by decide) (fun c => absurd c (by decide)) (fun _ => ?_)
  refine a_aload_n dX10_putBytes_17 rfl rfl ?_
  refine a_get (v := .ref 1) dX10_putBytes_18 fl_10_9 (cw_l h0 (by decide)) (cw_s h0 (by decide) rfl) (cw_g h0 rfl (by decide +kernel)) ?_
  refine a_aload_n dX10_putBytes_21 rfl rfl ?_
  refine a_get (v := .int 0) dX10_putBytes_22 fl_10_112 (cw_l h0 (by decide)) (cw_s h0 (by decide) rfl) (cw_gi h0 rfl (by decide) (by first | decide +kernel | rfl)) ?_
  refine a_iload_n dX10_putBytes_25 rfl rfl ?_
  refine a_iload_n dX10_putBytes_26 rfl rfl ?_
  refine a_iushr dX10_putBytes_27 ?_
  refine a_sipush (v := 255) dX10_putBytes_28 (by decide) ?_
  refine a_iand dX10_putBytes_31 ?_
  refine a_iastore dX10_putBytes_32 (cw_l h0 (by decide)) (cw_s h0 (by decide) rfl) (by unfold vp_in; decide +kernel) ?_
  rw [show Int32.toNatClampNeg 0 = 0 from by decide +kernel]
  have h1 : Cw 126 Lj134 (up2 fs42 1 0 ((iushr a 24) &&& 255)) gs31 (wI M 1 0 ((iushr a 24) &&& 255)) := cw_I h0 (by decide)
  generalize (wI M 1 0 ((iushr a 24) &&& 255)) = M1 at h1 ⊢
  refine a_aload_n dX10_putBytes_33 rfl rfl ?_
  refine a_dup dX10_putBytes_34 rfl ?_
  refine a_get (v := .int 0) dX10_putBytes_35 fl_10_112 (cw_l h1 (by decide)) (cw_s h1 (by decide) rfl) (cw_gi h1 rfl (by decide) (by first | decide +kernel | rfl)) ?_
  refine a_iconst (v := 1) dX10_putBytes_38 (by decide) ?_
  refine a_iadd dX10_putBytes_39 ?_
  refine a_st (st2 := [.int 1, .ref 0]) (by decide +kernel) ?_
  refine a_putI dX10_putBytes_40 (Or.inl ⟨fl_10_112, Or.inl rfl⟩) rfl (cw_l h1 (by decide)) (cw_s h1 (by decide) rfl) rfl rfl ?_
  have h2 : Cw 126 Lj134 (up2 (up2 fs42 1 0 ((iushr a 24) &&& 255)) 0 1 1) gs31 (wI M1 0 1 1) := cw_I h1 (by decide)
  generalize (wI M1 0 1 1) = M2 at h2 ⊢
  refine a_iinc (v := 16) dX10_putBytes_43 rfl (by decide) (Nat.le_of_ble_eq_true rfl) (lv2 := [(2, .int 16), (0, .ref 0), (1, .int a)]) rfl ?_
  refine a_goto 3 dX10_putBytes_46 (by decide) ?_
  refine a_iload_n dX10_putBytes_3 rfl rfl ?_
  refine a_if_lt 49 dX10_putBytes_4 (by decide) (fun c => absurd c (by decide)) (fun _ => ?_)
  refine a_aload_n dX10_putBytes_7 rfl rfl ?_
  refine a_get (v := .int 1) dX10_putBytes_8 fl_10_112 (cw_l h2 (by decide)) (cw_s h2 (by decide) rfl) (cw_gi h2 rfl (by decide) (by first | decide +kernel | rfl)) ?_
  refine a_sipush (v := 600) dX10_putBytes_11 (by decide) ?_
  refine a_icmp_ge 49 dX10_putBytes_14 (by decide) (fun c => absurd c (by decide)) (fun _ => ?_)
  refine a_aload_n dX10_putBytes_17 rfl rfl ?_
  refine a_get (v := .ref 1) dX10_putBytes_18 fl_10_9 (cw_l h2 (by decide)) (cw_s h2 (by decide) rfl) (cw_g h2 rfl (by decide +kernel)) ?_
  refine a_aload_n dX10_putBytes_21 rfl rfl ?_
  refine a_get (v := .int 1) dX10_putBytes_22 fl_10_112 (cw_l h2 (by decide)) (cw_s h2 (by decide) rfl) (cw_gi h2 rfl (by decide) (by first | decide +kernel | rfl)) ?_
  refine a_iload_n dX10_putBytes_25 rfl rfl ?_
  refine a_iload_n dX10_putBytes_26 rfl rfl ?_
  refine a_iushr dX10_putBytes_27 ?_
  refine a_sipush (v := 255) dX10_putBytes_28 (by decide) ?_
  refine a_iand dX10_putBytes_31 ?_
  refine a_iastore dX10_putBytes_32 (cw_l h2 (by decide)) (cw_s h2 (by decide) rfl) (by unfold vp_in; decide +kernel) ?_
  rw [show Int32.toNatClampNeg 1 = 1 from by decide +kernel]
  have h3 : Cw 126 Lj134 (up2 (up2 (up2 fs42 1 0 ((iushr a 24) &&& 255)) 0 1 1) 1 1 ((iushr a 16) &&& 255)) gs31 (wI M2 1 1 ((iushr a 16) &&& 255)) := cw_I h2 (by decide)
  generalize (wI M2 1 1 ((iushr a 16) &&& 255)) = M3 at h3 ⊢
  refine a_aload_n dX10_putBytes_33 rfl rfl ?_
  refine a_dup dX10_putBytes_34 rfl ?_
  refine a_get (v := .int 1) dX10_putBytes_35 fl_10_112 (cw_l h3 (by decide)) (cw_s h3 (by decide) rfl) (cw_gi h3 rfl (by decide) (by first | decide +kernel | rfl)) ?_
  refine a_iconst (v := 1) dX10_putBytes_38 (by decide) ?_
  refine a_iadd dX10_putBytes_39 ?_
  refine a_st (st2 := [.int 2, .ref 0]) (by decide +kernel) ?_
  refine a_putI dX10_putBytes_40 (Or.inl ⟨fl_10_112, Or.inl rfl⟩) rfl (cw_l h3 (by decide)) (cw_s h3 (by decide) rfl) rfl rfl ?_
  have h4 : Cw 126 Lj134 (up2 (up2 (up2 (up2 fs42 1 0 ((iushr a 24) &&& 255)) 0 1 1) 1 1 ((iushr a 16) &&& 255)) 0 1 2) gs31 (wI M3 0 1 2) := cw_I h3 (by decide)
  generalize (wI M3 0 1 2) = M4 at h4 ⊢
  refine a_iinc (v := 8) dX10_putBytes_43 rfl (by decide) (Nat.le_of_ble_eq_true rfl) (lv2 := [(2, .int 8), (0, .ref 0), (1, .int a)]) rfl ?_
  refine a_goto 3 dX10_putBytes_46 (by decide) ?_
  refine a_iload_n dX10_putBytes_3 rfl rfl ?_
  refine a_if_lt 49 dX10_putBytes_4 (by decide) (fun c => absurd c (by decide)) (fun _ => ?_)
  refine a_aload_n dX10_putBytes_7 rfl rfl ?_
  refine a_get (v := .int 2) dX10_putBytes_8 fl_10_112 (cw_l h4 (by decide)) (cw_s h4 (by decide) rfl) (cw_gi h4 rfl (by decide) (by first | decide +kernel | rfl)) ?_
  refine a_sipush (v := 600) dX10_putBytes_11 (by decide) ?_
  refine a_icmp_ge 49 dX10_putBytes_14 (by decide) (fun c => absurd c (by decide)) (fun _ => ?_)
  refine a_aload_n dX10_putBytes_17 rfl rfl ?_
  refine a_get (v := .ref 1) dX10_putBytes_18 fl_10_9 (cw_l h4 (by decide)) (cw_s h4 (by decide) rfl) (cw_g h4 rfl (by decide +kernel)) ?_
  refine a_aload_n dX10_putBytes_21 rfl rfl ?_
  refine a_get (v := .int 2) dX10_putBytes_22 fl_10_112 (cw_l h4 (by decide)) (cw_s h4 (by decide) rfl) (cw_gi h4 rfl (by decide) (by first | decide +kernel | rfl)) ?_
  refine a_iload_n dX10_putBytes_25 rfl rfl ?_
  refine a_iload_n dX10_putBytes_26 rfl rfl ?_
  refine a_iushr dX10_putBytes_27 ?_
  refine a_sipush (v := 255) dX10_putBytes_28 (by decide) ?_
  refine a_iand dX10_putBytes_31 ?_
  refine a_iastore dX10_putBytes_32 (cw_l h4 (by decide)) (cw_s h4 (by decide) rfl) (by unfold vp_in; decide +kernel) ?_
  rw [show Int32.toNatClampNeg 2 = 2 from by decide +kernel]
  have h5 : Cw 126 Lj134 (up2 (up2 (up2 (up2 (up2 fs42 1 0 ((iushr a 24) &&& 255)) 0 1 1) 1 1 ((iushr a 16) &&& 255)) 0 1 2) 1 2 ((iushr a 8) &&& 255)) gs31 (wI M4 1 2 ((iushr a 8) &&& 255)) := cw_I h4 (by decide)
  generalize (wI M4 1 2 ((iushr a 8) &&& 255)) = M5 at h5 ⊢
  refine a_aload_n dX10_putBytes_33 rfl rfl ?_
  refine a_dup dX10_putBytes_34 rfl ?_
  refine a_get (v := .int 2) dX10_putBytes_35 fl_10_112 (cw_l h5 (by decide)) (cw_s h5 (by decide) rfl) (cw_gi h5 rfl (by decide) (by first | decide +kernel | rfl)) ?_
  refine a_iconst (v := 1) dX10_putBytes_38 (by decide) ?_
  refine a_iadd dX10_putBytes_39 ?_
  refine a_st (st2 := [.int 3, .ref 0]) (by decide +kernel) ?_
  refine a_putI dX10_putBytes_40 (Or.inl ⟨fl_10_112, Or.inl rfl⟩) rfl (cw_l h5 (by decide)) (cw_s h5 (by decide) rfl) rfl rfl ?_
  have h6 : Cw 126 Lj134 (up2 (up2 (up2 (up2 (up2 (up2 fs42 1 0 ((iushr a 24) &&& 255)) 0 1 1) 1 1 ((iushr a 16) &&& 255)) 0 1 2) 1 2 ((iushr a 8) &&& 255)) 0 1 3) gs31 (wI M5 0 1 3) := cw_I h5 (by decide)
  generalize (wI M5 0 1 3) = M6 at h6 ⊢
  refine a_iinc (v := 0) dX10_putBytes_43 rfl (by decide) (Nat.le_of_ble_eq_true rfl) (lv2 := [(2, .int 0), (0, .ref 0), (1, .int a)]) rfl ?_
  refine a_goto 3 dX10_putBytes_46 (by decide) ?_
  refine a_iload_n dX10_putBytes_3 rfl rfl ?_
  refine a_if_lt 49 dX10_putBytes_4 (by decide) (fun c => absurd c (by decide)) (fun _ => ?_)
  refine a_aload_n dX10_putBytes_7 rfl rfl ?_
  refine a_get (v := .int 3) dX10_putBytes_8 fl_10_112 (cw_l h6 (by decide)) (cw_s h6 (by decide) rfl) (cw_gi h6 rfl (by decide) (by first | decide +kernel | rfl)) ?_
  refine a_sipush (v := 600) dX10_putBytes_11 (by decide) ?_
  refine a_icmp_ge 49 dX10_putBytes_14 (by decide) (fun c => absurd c (by decide)) (fun _ => ?_)
  refine a_aload_n dX10_putBytes_17 rfl rfl ?_
  refine a_get (v := .ref 1) dX10_putBytes_18 fl_10_9 (cw_l h6 (by decide)) (cw_s h6 (by decide) rfl) (cw_g h6 rfl (by decide +kernel)) ?_
  refine a_aload_n dX10_putBytes_21 rfl rfl ?_
  refine a_get (v := .int 3) dX10_putBytes_22 fl_10_112 (cw_l h6 (by decide)) (cw_s h6 (by decide) rfl) (cw_gi h6 rfl (by decide) (by first | decide +kernel | rfl)) ?_
  refine a_iload_n dX10_putBytes_25 rfl rfl ?_
  refine a_iload_n dX10_putBytes_26 rfl rfl ?_
  refine a_iushr dX10_putBytes_27 ?_
  refine a_sipush (v := 255) dX10_putBytes_28 (by decide) ?_
  refine a_iand dX10_putBytes_31 ?_
  refine a_iastore dX10_putBytes_32 (cw_l h6 (by decide)) (cw_s h6 (by decide) rfl) (by unfold vp_in; decide +kernel) ?_
  rw [show Int32.toNatClampNeg 3 = 3 from by decide +kernel]
  have h7 : Cw 126 Lj134 (up2 (up2 (up2 (up2 (up2 (up2 (up2 fs42 1 0 ((iushr a 24) &&& 255)) 0 1 1) 1 1 ((iushr a 16) &&& 255)) 0 1 2) 1 2 ((iushr a 8) &&& 255)) 0 1 3) 1 3 ((iushr a 0) &&& 255)) gs31 (wI M6 1 3 ((iushr a 0) &&& 255)) := cw_I h6 (by decide)
  generalize (wI M6 1 3 ((iushr a 0) &&& 255)) = M7 at h7 ⊢
  refine a_aload_n dX10_putBytes_33 rfl rfl ?_
  refine a_dup dX10_putBytes_34 rfl ?_
  refine a_get (v := .int 3) dX10_putBytes_35 fl_10_112 (cw_l h7 (by decide)) (cw_s h7 (by decide) rfl) (cw_gi h7 rfl (by decide) (by first | decide +kernel | rfl)) ?_
  refine a_iconst (v := 1) dX10_putBytes_38 (by decide) ?_
  refine a_iadd dX10_putBytes_39 ?_
  refine a_st (st2 := [.int 4, .ref 0]) (by decide +kernel) ?_
  refine a_putI dX10_putBytes_40 (Or.inl ⟨fl_10_112, Or.inl rfl⟩) rfl (cw_l h7 (by decide)) (cw_s h7 (by decide) rfl) rfl rfl ?_
  have h8 : Cw 126 Lj134 (up2 (up2 (up2 (up2 (up2 (up2 (up2 (up2 fs42 1 0 ((iushr a 24) &&& 255)) 0 1 1) 1 1 ((iushr a 16) &&& 255)) 0 1 2) 1 2 ((iushr a 8) &&& 255)) 0 1 3) 1 3 ((iushr a 0) &&& 255)) 0 1 4) gs31 (wI M7 0 1 4) := cw_I h7 (by decide)
  generalize (wI M7 0 1 4) = M8 at h8 ⊢
  refine a_iinc (v := (-8)) dX10_putBytes_43 rfl (by decide) (Nat.le_of_ble_eq_true rfl) (lv2 := [(2, .int (-8)), (0, .ref 0), (1, .int a)]) rfl ?_
  refine a_goto 3 dX10_putBytes_46 (by decide) ?_
  refine a_iload_n dX10_putBytes_3 rfl rfl ?_
  refine a_if_lt 49 dX10_putBytes_4 (by decide) (fun _ => ?_) (fun c => absurd (by decide) c)
  exact a_vret dX10_putBytes_49 rfl ⟨rfl, h8⟩
set_option maxHeartbeats 4000000 in
set_option maxRecDepth 100000 in
theorem z2_X10_putBytes {X : Nat × (Nat → Int32)} {fr : Nat} {M : Mem} (a : Int32) (b : Int32) (c : Int32) (d : Int32) (e : Int32) (h0 : Cw 126 Lj134 (up2 (up2 (up2 (up2 (up2 (up2 (up2 (up2 fs42 1 0 ((iushr a 24) &&& 255)) 0 1 1) 1 1 ((iushr a 16) &&& 255)) 0 1 2) 1 2 ((iushr a 8) &&& 255)) 0 1 3) 1 3 ((iushr a 0) &&& 255)) 0 1 4) gs31 M) : AM yX10_putBytes cX10_putBytes 3 none true (fr + 7) 0 0 X [.ref 0, .int b] M (fun v M1 => v = none ∧ Cw 126 Lj134 (up2 (up2 (up2 (up2 (up2 (up2 (up2 (up2 (up2 (up2 (up2 (up2 (up2 (up2 (up2 (up2 fs42 1 0 ((iushr a 24) &&& 255)) 0 1 1) 1 1 ((iushr a 16) &&& 255)) 0 1 2) 1 2 ((iushr a 8) &&& 255)) 0 1 3) 1 3 ((iushr a 0) &&& 255)) 0 1 4) 1 4 ((iushr b 24) &&& 255)) 0 1 5) 1 5 ((iushr b 16) &&& 255)) 0 1 6) 1 6 ((iushr b 8) &&& 255)) 0 1 7) 1 7 ((iushr b 0) &&& 255)) 0 1 8) gs31 M1) := by
  refine AM.of false (by decide +kernel) (by intro h; cases h) (Nat.le_of_ble_eq_true rfl) ?_
  show AW X (RX10, cX10_putBytes, 3, none, false, true, fr + 7) 0 0 0 [(0, .ref 0), (1, .int b)] [] M _
  refine a_bipush (v := 24) dX10_putBytes_0 (by decide) ?_
  refine a_istore_n dX10_putBytes_2 rfl (Nat.le_of_ble_eq_true rfl) (lv2 := [(2, .int 24), (0, .ref 0), (1, .int b)]) rfl ?_
  refine a_iload_n dX10_putBytes_3 rfl rfl ?_
  refine a_if_lt 49 dX10_putBytes_4 (by decide) (fun c => absurd c (by decide)) (fun _ => ?_)
  refine a_aload_n dX10_putBytes_7 rfl rfl ?_
  refine a_get (v := .int 4) dX10_putBytes_8 fl_10_112 (cw_l h0 (by decide)) (cw_s h0 (by decide) rfl) (cw_gi h0 rfl (by decide) (by first | decide +kernel | rfl)) ?_
  refine a_sipush (v := 600) dX10_putBytes_11 (by decide) ?_
  refine a_icmp_ge 49 dX10_putBytes_14 (by decide) (fun c => absurd c (by decide)) (fun _ => ?_)
  refine a_aload_n dX10_putBytes_17 rfl rfl ?_
  refine a_get (v := .ref 1) dX10_putBytes_18 fl_10_9 (cw_l h0 (by decide)) (cw_s h0 (by decide) rfl) (cw_g h0 rfl (by decide +kernel)) ?_
  refine a_aload_n dX10_putBytes_21 rfl rfl ?_
  refine a_get (v := .int 4) dX10_putBytes_22 fl_10_112 (cw_l h0 (by decide)) (cw_s h0 (by decide) rfl) (cw_gi h0 rfl (by decide) (by first | decide +kernel | rfl)) ?_
  refine a_iload_n dX10_putBytes_25 rfl rfl ?_
  refine a_iload_n dX10_putBytes_26 rfl rfl ?_
  refine a_iushr dX10_putBytes_27 ?_
  refine a_sipush (v := 255) dX10_putBytes_28 (by decide) ?_
  refine a_iand dX10_putBytes_31 ?_
  refine a_iastore dX10_putBytes_32 (cw_l h0 (by decide)) (cw_s h0 (by decide) rfl) (by unfold vp_in; decide +kernel) ?_
  rw [show Int32.toNatClampNeg 4 = 4 from by decide +kernel]
  have h1 : Cw 126 Lj134 (up2 (up2 (up2 (up2 (up2 (up2 (up2 (up2 (up2 fs42 1 0 ((iushr a 24) &&& 255)) 0 1 1) 1 1 ((iushr a 16) &&& 255)) 0 1 2) 1 2 ((iushr a 8) &&& 255)) 0 1 3) 1 3 ((iushr a 0) &&& 255)) 0 1 4) 1 4 ((iushr b 24) &&& 255)) gs31 (wI M 1 4 ((iushr b 24) &&& 255)) := cw_I h0 (by decide)
  generalize (wI M 1 4 ((iushr b 24) &&& 255)) = M1 at h1 ⊢
  refine a_aload_n dX10_putBytes_33 rfl rfl ?_
  refine a_dup dX10_putBytes_34 rfl ?_
  refine a_get (v := .int 4) dX10_putBytes_35 fl_10_112 (cw_l h1 (by decide)) (cw_s h1 (by decide) rfl) (cw_gi h1 rfl (by decide) (by first | decide +kernel | rfl)) ?_
  refine a_iconst (v := 1) dX10_putBytes_38 (by decide) ?_
  refine a_iadd dX10_putBytes_39 ?_
  refine a_st (st2 := [.int 5, .ref 0]) (by decide +kernel) ?_
  refine a_putI dX10_putBytes_40 (Or.inl ⟨fl_10_112, Or.inl rfl⟩) rfl (cw_l h1 (by decide)) (cw_s h1 (by decide) rfl) rfl rfl ?_
  have h2 : Cw 126 Lj134 (up2 (up2 (up2 (up2 (up2 (up2 (up2 (up2 (up2 (up2 fs42 1 0 ((iushr a 24) &&& 255)) 0 1 1) 1 1 ((iushr a 16) &&& 255)) 0 1 2) 1 2 ((iushr a 8) &&& 255)) 0 1 3) 1 3 ((iushr a 0) &&& 255)) 0 1 4) 1 4 ((iushr b 24) &&& 255)) 0 1 5) gs31 (wI M1 0 1 5) := cw_I h1 (by decide)
  generalize (wI M1 0 1 5) = M2 at h2 ⊢
  refine a_iinc (v := 16) dX10_putBytes_43 rfl (by decide) (Nat.le_of_ble_eq_true rfl) (lv2 := [(2, .int 16), (0, .ref 0), (1, .int b)]) rfl ?_
  refine a_goto 3 dX10_putBytes_46 (by decide) ?_
  refine a_iload_n dX10_putBytes_3 rfl rfl ?_
  refine a_if_lt 49 dX10_putBytes_4 (by decide) (fun c => absurd c (by decide)) (fun _ => ?_)
  refine a_aload_n dX10_putBytes_7 rfl rfl ?_
  refine a_get (v := .int 5) dX10_putBytes_8 fl_10_112 (cw_l h2 (by decide)) (cw_s h2 (by decide) rfl) (cw_gi h2 rfl (by decide) (by first | decide +kernel | rfl)) ?_
  refine a_sipush (v := 600) dX10_putBytes_11 (by decide) ?_
  refine a_icmp_ge 49 dX10_putBytes_14 (by decide) (fun c => absurd c (by decide)) (fun _ => ?_)
  refine a_aload_n dX10_putBytes_17 rfl rfl ?_
  refine a_get (v := .ref 1) dX10_putBytes_18 fl_10_9 (cw_l h2 (by decide)) (cw_s h2 (by decide) rfl) (cw_g h2 rfl (by decide +kernel)) ?_
  refine a_aload_n dX10_putBytes_21 rfl rfl ?_
  refine a_get (v := .int 5) dX10_putBytes_22 fl_10_112 (cw_l h2 (by decide)) (cw_s h2 (by decide) rfl) (cw_gi h2 rfl (by decide) (by first | decide +kernel | rfl)) ?_
  refine a_iload_n dX10_putBytes_25 rfl rfl ?_
  refine a_iload_n dX10_putBytes_26 rfl rfl ?_
  refine a_iushr dX10_putBytes_27 ?_
  refine a_sipush (v := 255) dX10_putBytes_28 (by decide) ?_
  refine a_iand dX10_putBytes_31 ?_
  refine a_iastore dX10_putBytes_32 (cw_l h2 (by decide)) (cw_s h2 (by decide) rfl) (by unfold vp_in; decide +kernel) ?_
  rw [show Int32.toNatClampNeg 5 = 5 from by decide +kernel]
  have h3 : Cw 126 Lj134 (up2 (up2 (up2 (up2 (up2 (up2 (up2 (up2 (up2 (up2 (up2 fs42 1 0 ((iushr a 24) &&& 255)) 0 1 1) 1 1 ((iushr a 16) &&& 255)) 0 1 2) 1 2 ((iushr a 8) &&& 255)) 0 1 3) 1 3 ((iushr a 0) &&& 255)) 0 1 4) 1 4 ((iushr b 24) &&& 255)) 0 1 5) 1 5 ((iushr b 16) &&& 255)) gs31 (wI M2 1 5 ((iushr b 16) &&& 255)) := cw_I h2 (by decide)
  generalize (wI M2 1 5 ((iushr b 16) &&& 255)) = M3 at h3 ⊢
  refine a_aload_n dX10_putBytes_33 rfl rfl ?_
  refine a_dup dX10_putBytes_34 rfl ?_
  refine a_get (v := .int 5) dX10_putBytes_35 fl_10_112 (cw_l h3 (by decide)) (cw_s h3 (by decide) rfl) (cw_gi h3 rfl (by decide) (by first | decide +kernel | rfl)) ?_
  refine a_iconst (v := 1) dX10_putBytes_38 (by decide) ?_
  refine a_iadd dX10_putBytes_39 ?_
  refine a_st (st2 := [.int 6, .ref 0]) (by decide +kernel) ?_
  refine a_putI dX10_putBytes_40 (Or.inl ⟨fl_10_112, Or.inl rfl⟩) rfl (cw_l h3 (by decide)) (cw_s h3 (by decide) rfl) rfl rfl ?_
  have h4 : Cw 126 Lj134 (up2 (up2 (up2 (up2 (up2 (up2 (up2 (up2 (up2 (up2 (up2 (up2 fs42 1 0 ((iushr a 24) &&& 255)) 0 1 1) 1 1 ((iushr a 16) &&& 255)) 0 1 2) 1 2 ((iushr a 8) &&& 255)) 0 1 3) 1 3 ((iushr a 0) &&& 255)) 0 1 4) 1 4 ((iushr b 24) &&& 255)) 0 1 5) 1 5 ((iushr b 16) &&& 255)) 0 1 6) gs31 (wI M3 0 1 6) := cw_I h3 (by decide)
  generalize (wI M3 0 1 6) = M4 at h4 ⊢
  refine a_iinc (v := 8) dX10_putBytes_43 rfl (by decide) (Nat.le_of_ble_eq_true rfl) (lv2 := [(2, .int 8), (0, .ref 0), (1, .int b)]) rfl ?_
  refine a_goto 3 dX10_putBytes_46 (by decide) ?_
  refine a_iload_n dX10_putBytes_3 rfl rfl ?_
  refine a_if_lt 49 dX10_putBytes_4 (by decide) (fun c => absurd c (by decide)) (fun _ => ?_)
  refine a_aload_n dX10_putBytes_7 rfl rfl ?_
  refine a_get (v := .int 6) dX10_putBytes_8 fl_10_112 (cw_l h4 (by decide)) (cw_s h4 (by decide) rfl) (cw_gi h4 rfl (by decide) (by first | decide +kernel | rfl)) ?_
  refine a_sipush (v := 600) dX10_putBytes_11 (by decide) ?_
  refine a_icmp_ge 49 dX10_putBytes_14 (by decide) (fun c => absurd c (by decide)) (fun _ => ?_)
  refine a_aload_n dX10_putBytes_17 rfl rfl ?_
  refine a_get (v := .ref 1) dX10_putBytes_18 fl_10_9 (cw_l h4 (by decide)) (cw_s h4 (by decide) rfl) (cw_g h4 rfl (by decide +kernel)) ?_
  refine a_aload_n dX10_putBytes_21 rfl rfl ?_
  refine a_get (v := .int 6) dX10_putBytes_22 fl_10_112 (cw_l h4 (by decide)) (cw_s h4 (by decide) rfl) (cw_gi h4 rfl (by decide) (by first | decide +kernel | rfl)) ?_
  refine a_iload_n dX10_putBytes_25 rfl rfl ?_
  refine a_iload_n dX10_putBytes_26 rfl rfl ?_
  refine a_iushr dX10_putBytes_27 ?_
  refine a_sipush (v := 255) dX10_putBytes_28 (by decide) ?_
  refine a_iand dX10_putBytes_31 ?_
  refine a_iastore dX10_putBytes_32 (cw_l h4 (by decide)) (cw_s h4 (by decide) rfl) (by unfold vp_in; decide +kernel) ?_
  rw [show Int32.toNatClampNeg 6 = 6 from by decide +kernel]
  have h5 : Cw 126 Lj134 (up2 (up2 (up2 (up2 (up2 (up2 (up2 (up2 (up2 (up2 (up2 (up2 (up2 fs42 1 0 ((iushr a 24) &&& 255)) 0 1 1) 1 1 ((iushr a 16) &&& 255)) 0 1 2) 1 2 ((iushr a 8) &&& 255)) 0 1 3) 1 3 ((iushr a 0) &&& 255)) 0 1 4) 1 4 ((iushr b 24) &&& 255)) 0 1 5) 1 5 ((iushr b 16) &&& 255)) 0 1 6) 1 6 ((iushr b 8) &&& 255)) gs31 (wI M4 1 6 ((iushr b 8) &&& 255)) := cw_I h4 (by decide)
  generalize (wI M4 1 6 ((iushr b 8) &&& 255)) = M5 at h5 ⊢
  refine a_aload_n dX10_putBytes_33 rfl rfl ?_
  refine a_dup dX10_putBytes_34 rfl ?_
  refine a_get (v := .int 6) dX10_putBytes_35 fl_10_112 (cw_l h5 (by decide)) (cw_s h5 (by decide) rfl) (cw_gi h5 rfl (by decide) (by first | decide +kernel | rfl)) ?_
  refine a_iconst (v := 1) dX10_putBytes_38 (by decide) ?_
  refine a_iadd dX10_putBytes_39 ?_
  refine a_st (st2 := [.int 7, .ref 0]) (by decide +kernel) ?_
  refine a_putI dX10_putBytes_40 (Or.inl ⟨fl_10_112, Or.inl rfl⟩) rfl (cw_l h5 (by decide)) (cw_s h5 (by decide) rfl) rfl rfl ?_
  have h6 : Cw 126 Lj134 (up2 (up2 (up2 (up2 (up2 (up2 (up2 (up2 (up2 (up2 (up2 (up2 (up2 (up2 fs42 1 0 ((iushr a 24) &&& 255)) 0 1 1) 1 1 ((iushr a 16) &&& 255)) 0 1 2) 1 2 ((iushr a 8) &&& 255)) 0 1 3) 1 3 ((iushr a 0) &&& 255)) 0 1 4) 1 4 ((iushr b 24) &&& 255)) 0 1 5) 1 5 ((iushr b 16) &&& 255)) 0 1 6) 1 6 ((iushr b 8) &&& 255)) 0 1 7) gs31 (wI M5 0 1 7) := cw_I h5 (by decide)
  generalize (wI M5 0 1 7) = M6 at h6 ⊢
  refine a_iinc (v := 0) dX10_putBytes_43 rfl (by decide) (Nat.le_of_ble_eq_true rfl) (lv2 := [(2, .int 0), (0, .ref 0), (1, .int b)]) rfl ?_
  refine a_goto 3 dX10_putBytes_46 (by decide) ?_
  refine a_iload_n dX10_putBytes_3 rfl rfl ?_
  refine a_if_lt 49 dX10_putBytes_4 (by decide) (fun c => absurd c (by decide)) (fun _ => ?_)
  refine a_aload_n dX10_putBytes_7 rfl rfl ?_
  refine a_get (v := .int 7) dX10_putBytes_8 fl_10_112 (cw_l h6 (by decide)) (cw_s h6 (by decide) rfl) (cw_gi h6 rfl (by decide) (by first | decide +kernel | rfl)) ?_
  refine a_sipush (v := 600) dX10_putBytes_11 (by decide) ?_
  refine a_icmp_ge 49 dX10_putBytes_14 (by decide) (fun c => absurd c (by decide)) (fun _ => ?_)
  refine a_aload_n dX10_putBytes_17 rfl rfl ?_
  refine a_get (v := .ref 1) dX10_putBytes_18 fl_10_9 (cw_l h6 (by decide)) (cw_s h6 (by decide) rfl) (cw_g h6 rfl (by decide +kernel)) ?_
  refine a_aload_n dX10_putBytes_21 rfl rfl ?_
  refine a_get (v := .int 7) dX10_putBytes_22 fl_10_112 (cw_l h6 (by decide)) (cw_s h6 (by decide) rfl) (cw_gi h6 rfl (by decide) (by first | decide +kernel | rfl)) ?_
  refine a_iload_n dX10_putBytes_25 rfl rfl ?_
  refine a_iload_n dX10_putBytes_26 rfl rfl ?_
  refine a_iushr dX10_putBytes_27 ?_
  refine a_sipush (v := 255) dX10_putBytes_28 (by decide) ?_
  refine a_iand dX10_putBytes_31 ?_
  refine a_iastore dX10_putBytes_32 (cw_l h6 (by decide)) (cw_s h6 (by decide) rfl) (by unfold vp_in; decide +kernel) ?_
  rw [show Int32.toNatClampNeg 7 = 7 from by decide +kernel]
  have h7 : Cw 126 Lj134 (up2 (up2 (up2 (up2 (up2 (up2 (up2 (up2 (up2 (up2 (up2 (up2 (up2 (up2 (up2 fs42 1 0 ((iushr a 24) &&& 255)) 0 1 1) 1 1 ((iushr a 16) &&& 255)) 0 1 2) 1 2 ((iushr a 8) &&& 255)) 0 1 3) 1 3 ((iushr a 0) &&& 255)) 0 1 4) 1 4 ((iushr b 24) &&& 255)) 0 1 5) 1 5 ((iushr b 16) &&& 255)) 0 1 6) 1 6 ((iushr b 8) &&& 255)) 0 1 7) 1 7 ((iushr b 0) &&& 255)) gs31 (wI M6 1 7 ((iushr b 0) &&& 255)) := cw_I h6 (by decide)
  generalize (wI M6 1 7 ((iushr b 0) &&& 255)) = M7 at h7 ⊢
  refine a_aload_n dX10_putBytes_33 rfl rfl ?_
  refine a_dup dX10_putBytes_34 rfl ?_
  refine a_get (v := .int 7) dX10_putBytes_35 fl_10_112 (cw_l h7 (by decide)) (cw_s h7 (by decide) rfl) (cw_gi h7 rfl (by decide) (by first | decide +kernel | rfl)) ?_
  refine a_iconst (v := 1) dX10_putBytes_38 (by decide) ?_
  refine a_iadd dX10_putBytes_39 ?_
  refine a_st (st2 := [.int 8, .ref 0]) (by decide +kernel) ?_
  refine a_putI dX10_putBytes_40 (Or.inl ⟨fl_10_112, Or.inl rfl⟩) rfl (cw_l h7 (by decide)) (cw_s h7 (by decide) rfl) rfl rfl ?_
  have h8 : Cw 126 Lj134 (up2 (up2 (up2 (up2 (up2 (up2 (up2 (up2 (up2 (up2 (up2 (up2 (up2 (up2 (up2 (up2 fs42 1 0 ((iushr a 24) &&& 255)) 0 1 1) 1 1 ((iushr a 16) &&& 255)) 0 1 2) 1 2 ((iushr a 8) &&& 255)) 0 1 3) 1 3 ((iushr a 0) &&& 255)) 0 1 4) 1 4 ((iushr b 24) &&& 255)) 0 1 5) 1 5 ((iushr b 16) &&& 255)) 0 1 6) 1 6 ((iushr b 8) &&& 255)) 0 1 7) 1 7 ((iushr b 0) &&& 255)) 0 1 8) gs31 (wI M7 0 1 8) := cw_I h7 (by decide)
  generalize (wI M7 0 1 8) = M8 at h8 ⊢
  refine a_iinc (v := (-8)) dX10_putBytes_43 rfl (by decide) (Nat.le_of_ble_eq_true rfl) (lv2 := [(2, .int (-8)), (0, .ref 0), (1, .int b)]) rfl ?_
  refine a_goto 3 dX10_putBytes_46 (by decide) ?_
  refine a_iload_n dX10_putBytes_3 rfl rfl ?_
  refine a_if_lt 49 dX10_putBytes_4 (by decide) (fun _ => ?_) (fun c => absurd (by decide) c)
  exact a_vret dX10_putBytes_49 rfl ⟨rfl, h8⟩
set_option maxHeartbeats 4000000 in
set_option maxRecDepth 100000 in
theorem z3_X10_putBytes {X : Nat × (Nat → Int32)} {fr : Nat} {M : Mem} (a : Int32) (b : Int32) (c : Int32) (d : Int32) (e : Int32) (h0 : Cw 126 Lj134 (up2 (up2 (up2 (up2 (up2 (up2 (up2 (up2 (up2 (up2 (up2 (up2 (up2 (up2 (up2 (up2 fs42 1 0 ((iushr a 24) &&& 255)) 0 1 1) 1 1 ((iushr a 16) &&& 255)) 0 1 2) 1 2 ((iushr a 8) &&& 255)) 0 1 3) 1 3 ((iushr a 0) &&& 255)) 0 1 4) 1 4 ((iushr b 24) &&& 255)) 0 1 5) 1 5 ((iushr b 16) &&& 255)) 0 1 6) 1 6 ((iushr b 8) &&& 255)) 0 1 7) 1 7 ((iushr b 0) &&& 255)) 0 1 8) gs31 M) : AM yX10_putBytes cX10_putBytes 3 none true (fr + 7) 0 0 X [.ref 0, .int c] M (fun v M1 => v = none ∧ Cw 126 Lj134 (up2 (up2 (up2 (up2 (up2 (up2 (up2 (up2 (up2 (up2 (up2 (up2 (up2 (up2 (up2 (up2 (up2 (up2 (up2 (up2 (up2 (up2 (up2 (up2 fs42 1 0 ((iushr a 24) &&& 255)) 0 1 1) 1 1 ((iushr a 16) &&& 255)) 0 1 2) 1 2 ((iushr a 8) &&& 255)) 0 1 3) 1 3 ((iushr a 0) &&& 255)) 0 1 4) 1 4 ((iushr b 24) &&& 255)) 0 1 5) 1 5 ((iushr b 16) &&& 255)) 0 1 6) 1 6 ((iushr b 8) &&& 255)) 0 1 7) 1 7 ((iushr b 0) &&& 255)) 0 1 8) 1 8 ((iushr c 24) &&& 255)) 0 1 9) 1 9 ((iushr c 16) &&& 255)) 0 1 10) 1 10 ((iushr c 8) &&& 255)) 0 1 11) 1 11 ((iushr c 0) &&& 255)) 0 1 12) gs31 M1) := by
  refine AM.of false (by decide +kernel) (by intro h; cases h) (Nat.le_of_ble_eq_true rfl) ?_
  show AW X (RX10, cX10_putBytes, 3, none, false, true, fr + 7) 0 0 0 [(0, .ref 0), (1, .int c)] [] M _
  refine a_bipush (v := 24) dX10_putBytes_0 (by decide) ?_
  refine a_istore_n dX10_putBytes_2 rfl (Nat.le_of_ble_eq_true rfl) (lv2 := [(2, .int 24), (0, .ref 0), (1, .int c)]) rfl ?_
  refine a_iload_n dX10_putBytes_3 rfl rfl ?_
  refine a_if_lt 49 dX10_putBytes_4 (by decide) (fun c => absurd c (by decide)) (fun _ => ?_)
  refine a_aload_n dX10_putBytes_7 rfl rfl ?_
  refine a_get (v := .int 8) dX10_putBytes_8 fl_10_112 (cw_l h0 (by decide)) (cw_s h0 (by decide) rfl) (cw_gi h0 rfl (by decide) (by first | decide +kernel | rfl)) ?_
  refine a_sipush (v := 600) dX10_putBytes_11 (by decide) ?_
  refine a_icmp_ge 49 dX10_putBytes_14 (by decide) (fun c => absurd c (by decide)) (fun _ => ?_)
  refine a_aload_n dX10_putBytes_17 rfl rfl ?_
  refine a_get (v := .ref 1) dX10_putBytes_18 fl_10_9 (cw_l h0 (by decide)) (cw_s h0 (by decide) rfl) (cw_g h0 rfl (by decide +kernel)) ?_
  refine a_aload_n dX10_putBytes_21 rfl rfl ?_
  refine a_get (v := .int 8) dX10_putBytes_22 fl_10_112 (cw_l h0 (by decide)) (cw_s h0 (by decide) rfl) (cw_gi h0 rfl (by decide) (by first | decide +kernel | rfl)) ?_
  refine a_iload_n dX10_putBytes_25 rfl rfl ?_
  refine a_iload_n dX10_putBytes_26 rfl rfl ?_
  refine a_iushr dX10_putBytes_27 ?_
  refine a_sipush (v := 255) dX10_putBytes_28 (by decide) ?_
  refine a_iand dX10_putBytes_31 ?_
  refine a_iastore dX10_putBytes_32 (cw_l h0 (by decide)) (cw_s h0 (by decide) rfl) (by unfold vp_in; decide +kernel) ?_
  rw [show Int32.toNatClampNeg 8 = 8 from by decide +kernel]
  have h1 : Cw 126 Lj134 (up2 (up2 (up2 (up2 (up2 (up2 (up2 (up2 (up2 (up2 (up2 (up2 (up2 (up2 (up2 (up2 (up2 fs42 1 0 ((iushr a 24) &&& 255)) 0 1 1) 1 1 ((iushr a 16) &&& 255)) 0 1 2) 1 2 ((iushr a 8) &&& 255)) 0 1 3) 1 3 ((iushr a 0) &&& 255)) 0 1 4) 1 4 ((iushr b 24) &&& 255)) 0 1 5) 1 5 ((iushr b 16) &&& 255)) 0 1 6) 1 6 ((iushr b 8) &&& 255)) 0 1 7) 1 7 ((iushr b 0) &&& 255)) 0 1 8) 1 8 ((iushr c 24) &&& 255)) gs31 (wI M 1 8 ((iushr c 24) &&& 255)) := cw_I h0 (by decide)
  generalize (wI M 1 8 ((iushr c 24) &&& 255)) = M1 at h1 ⊢
  refine a_aload_n dX10_putBytes_33 rfl rfl ?_
  refine a_dup dX10_putBytes_34 rfl ?_
  refine a_get (v := .int 8) dX10_putBytes_35 fl_10_112 (cw_l h1 (by decide)) (cw_s h1 (by decide) rfl) (cw_gi h1 rfl (by decide) (by first | decide +kernel | rfl)) ?_
  refine a_iconst (v := 1) dX10_putBytes_38 (by decide) ?_
  refine a_iadd dX10_putBytes_39 ?_
  refine a_st (st2 := [.int 9, .ref 0]) (by decide +kernel) ?_
  refine a_putI dX10_putBytes_40 (Or.inl ⟨fl_10_112, Or.inl rfl⟩) rfl (cw_l h1 (by decide)) (cw_s h1 (by decide) rfl) rfl rfl ?_
  have h2 : Cw 126 Lj134 (up2 (up2 (up2 (up2 (up2 (up2 (up2 (up2 (up2 (up2 (up2 (up2 (up2 (up2 (up2 (up2 (up2 (up2 fs42 1 0 ((iushr a 24) &&& 255)) 0 1 1) 1 1 ((iushr a 16) &&& 255)) 0 1 2) 1 2 ((iushr a 8) &&& 255)) 0 1 3) 1 3 ((iushr a 0) &&& 255)) 0 1 4) 1 4 ((iushr b 24) &&& 255)) 0 1 5) 1 5 ((iushr b 16) &&& 255)) 0 1 6) 1 6 ((iushr b 8) &&& 255)) 0 1 7) 1 7 ((iushr b 0) &&& 255)) 0 1 8) 1 8 ((iushr c 24) &&& 255)) 0 1 9) gs31 (wI M1 0 1 9) := cw_I h1 (by decide)
  generalize (wI M1 0 1 9) = M2 at h2 ⊢
  refine a_iinc (v := 16) dX10_putBytes_43 rfl (by decide) (Nat.le_of_ble_eq_true rfl) (lv2 := [(2, .int 16), (0, .ref 0), (1, .int c)]) rfl ?_
  refine a_goto 3 dX10_putBytes_46 (by decide) ?_
  refine a_iload_n dX10_putBytes_3 rfl rfl ?_
  refine a_if_lt 49 dX10_putBytes_4 (by decide) (fun c => absurd c (by decide)) (fun _ => ?_)
  refine a_aload_n dX10_putBytes_7 rfl rfl ?_
  refine a_get (v := .int 9) dX10_putBytes_8 fl_10_112 (cw_l h2 (by decide)) (cw_s h2 (by decide) rfl) (cw_gi h2 rfl (by decide) (by first | decide +kernel | rfl)) ?_
  refine a_sipush (v := 600) dX10_putBytes_11 (by decide) ?_
  refine a_icmp_ge 49 dX10_putBytes_14 (by decide) (fun c => absurd c (by decide)) (fun _ => ?_)
  refine a_aload_n dX10_putBytes_17 rfl rfl ?_
  refine a_get (v := .ref 1) dX10_putBytes_18 fl_10_9 (cw_l h2 (by decide)) (cw_s h2 (by decide) rfl) (cw_g h2 rfl (by decide +kernel)) ?_
  refine a_aload_n dX10_putBytes_21 rfl rfl ?_
  refine a_get (v := .int 9) dX10_putBytes_22 fl_10_112 (cw_l h2 (by decide)) (cw_s h2 (by decide) rfl) (cw_gi h2 rfl (by decide) (by first | decide +kernel | rfl)) ?_
  refine a_iload_n dX10_putBytes_25 rfl rfl ?_
  refine a_iload_n dX10_putBytes_26 rfl rfl ?_
  refine a_iushr dX10_putBytes_27 ?_
  refine a_sipush (v := 255) dX10_putBytes_28 (by decide) ?_
  refine a_iand dX10_putBytes_31 ?_
  refine a_iastore dX10_putBytes_32 (cw_l h2 (by decide)) (cw_s h2 (by decide) rfl) (by unfold vp_in; decide +kernel) ?_
  rw [show Int32.toNatClampNeg 9 = 9 from by decide +kernel]
  have h3 : Cw 126 Lj134 (up2 (up2 (up2 (up2 (up2 (up2 (up2 (up2 (up2 (up2 (up2 (up2 (up2 (up2 (up2 (up2 (up2 (up2 (up2 fs42 1 0 ((iushr a 24) &&& 255)) 0 1 1) 1 1 ((iushr a 16) &&& 255)) 0 1 2) 1 2 ((iushr a 8) &&& 255)) 0 1 3) 1 3 ((iushr a 0) &&& 255)) 0 1 4) 1 4 ((iushr b 24) &&& 255)) 0 1 5) 1 5 ((iushr b 16) &&& 255)) 0 1 6) 1 6 ((iushr b 8) &&& 255)) 0 1 7) 1 7 ((iushr b 0) &&& 255)) 0 1 8) 1 8 ((iushr c 24) &&& 255)) 0 1 9) 1 9 ((iushr c 16) &&& 255)) gs31 (wI M2 1 9 ((iushr c 16) &&& 255)) := cw_I h2 (by decide)
  generalize (wI M2 1 9 ((iushr c 16) &&& 255)) = M3 at h3 ⊢
  refine a_aload_n dX10_putBytes_33 rfl rfl ?_
  refine a_dup dX10_putBytes_34 rfl ?_
  refine a_get (v := .int 9) dX10_putBytes_35 fl_10_112 (cw_l h3 (by decide)) (cw_s h3 (by decide) rfl) (cw_gi h3 rfl (by decide) (by first | decide +kernel | rfl)) ?_
  refine a_iconst (v := 1) dX10_putBytes_38 (by decide) ?_
  refine a_iadd dX10_putBytes_39 ?_
  refine a_st (st2 := [.int 10, .ref 0]) (by decide +kernel) ?_
  refine a_putI dX10_putBytes_40 (Or.inl ⟨fl_10_112, Or.inl rfl⟩) rfl (cw_l h3 (by decide)) (cw_s h3 (by decide) rfl) rfl rfl ?_
  have h4 : Cw 126 Lj134 (up2 (up2 (up2 (up2 (up2 (up2 (up2 (up2 (up2 (up2 (up2 (up2 (up2 (up2 (up2 (up2 (up2 (up2 (up2 (up2 fs42 1 0 ((iushr a 24) &&& 255)) 0 1 1) 1 1 ((iushr a 16) &&& 255)) 0 1 2) 1 2 ((iushr a 8) &&& 255)) 0 1 3) 1 3 ((iushr a 0) &&& 255)) 0 1 4) 1 4 ((iushr b 24) &&& 255)) 0 1 5) 1 5 ((iushr b 16) &&& 255)) 0 1 6) 1 6 ((iushr b 8) &&& 255)) 0 1 7) 1 7 ((iushr b 0) &&& 255)) 0 1 8) 1 8 ((iushr c 24) &&& 255)) 0 1 9) 1 9 ((iushr c 16) &&& 255)) 0 1 10) gs31 (wI M3 0 1 10) := cw_I h3 (by decide)
  generalize (wI M3 0 1 10) = M4 at h4 ⊢
  refine a_iinc (v := 8) dX10_putBytes_43 rfl (by decide) (Nat.le_of_ble_eq_true rfl) (lv2 := [(2, .int 8), (0, .ref 0), (1, .int c)]) rfl ?_
  refine a_goto 3 dX10_putBytes_46 (by decide) ?_
  refine a_iload_n dX10_putBytes_3 rfl rfl ?_
  refine a_if_lt 49 dX10_putBytes_4 (by decide) (fun c => absurd c (by decide)) (fun _ => ?_)
  refine a_aload_n dX10_putBytes_7 rfl rfl ?_
  refine a_get (v := .int 10) dX10_putBytes_8 fl_10_112 (cw_l h4 (by decide)) (cw_s h4 (by decide) rfl) (cw_gi h4 rfl (by decide) (by first | decide +kernel | rfl)) ?_
  refine a_sipush (v := 600) dX10_putBytes_11 (by decide) ?_
  refine a_icmp_ge 49 dX10_putBytes_14 (by decide) (fun c => absurd c (by decide)) (fun _ => ?_)
  refine a_aload_n dX10_putBytes_17 rfl rfl ?_
  refine a_get (v := .ref 1) dX10_putBytes_18 fl_10_9 (cw_l h4 (by decide)) (cw_s h4 (by decide) rfl) (cw_g h4 rfl (by decide +kernel)) ?_
  refine a_aload_n dX10_putBytes_21 rfl rfl ?_
  refine a_get (v := .int 10) dX10_putBytes_22 fl_10_112 (cw_l h4 (by decide)) (cw_s h4 (by decide) rfl) (cw_gi h4 rfl (by decide) (by first | decide +kernel | rfl)) ?_
  refine a_iload_n dX10_putBytes_25 rfl rfl ?_
  refine a_iload_n dX10_putBytes_26 rfl rfl ?_
  refine a_iushr dX10_putBytes_27 ?_
  refine a_sipush (v := 255) dX10_putBytes_28 (by decide) ?_
  refine a_iand dX10_putBytes_31 ?_
  refine a_iastore dX10_putBytes_32 (cw_l h4 (by decide)) (cw_s h4 (by decide) rfl) (by unfold vp_in; decide +kernel) ?_
  rw [show Int32.toNatClampNeg 10 = 10 from by decide +kernel]
  have h5 : Cw 126 Lj134 (up2 (up2 (up2 (up2 (up2 (up2 (up2 (up2 (up2 (up2 (up2 (up2 (up2 (up2 (up2 (up2 (up2 (up2 (up2 (up2 (up2 fs42 1 0 ((iushr a 24) &&& 255)) 0 1 1) 1 1 ((iushr a 16) &&& 255)) 0 1 2) 1 2 ((iushr a 8) &&& 255)) 0 1 3) 1 3 ((iushr a 0) &&& 255)) 0 1 4) 1 4 ((iushr b 24) &&& 255)) 0 1 5) 1 5 ((iushr b 16) &&& 255)) 0 1 6) 1 6 ((iushr b 8) &&& 255)) 0 1 7) 1 7 ((iushr b 0) &&& 255)) 0 1 8) 1 8 ((iushr c 24) &&& 255)) 0 1 9) 1 9 ((iushr c 16) &&& 255)) 0 1 10) 1 10 ((iushr c 8) &&& 255)) gs31 (wI M4 1 10 ((iushr c 8) &&& 255)) := cw_I h4 (by decide)
  generalize (wI M4 1 10 ((iushr c 8) &&& 255)) = M5 at h5 ⊢
  refine a_aload_n dX10_putBytes_33 rfl rfl ?_
  refine a_dup dX10_putBytes_34 rfl ?_
  refine a_get (v := .int 10) dX10_putBytes_35 fl_10_112 (cw_l h5 (by decide)) (cw_s h5 (by decide) rfl) (cw_gi h5 rfl (by decide) (by first | decide +kernel | rfl)) ?_
  refine a_iconst (v := 1) dX10_putBytes_38 (by decide) ?_
  refine a_iadd dX10_putBytes_39 ?_
  refine a_st (st2 := [.int 11, .ref 0]) (by decide +kernel) ?_
  refine a_putI dX10_putBytes_40 (Or.inl ⟨fl_10_112, Or.inl rfl⟩) rfl (cw_l h5 (by decide)) (cw_s h5 (by decide) rfl) rfl rfl ?_
  have h6 : Cw 126 Lj134 (up2 (up2 (up2 (up2 (up2 (up2 (up2 (up2 (up2 (up2 (up2 (up2 (up2 (up2 (up2 (up2 (up2 (up2 (up2 (up2 (up2 (up2 fs42 1 0 ((iushr a 24) &&& 255)) 0 1 1) 1 1 ((iushr a 16) &&& 255)) 0 1 2) 1 2 ((iushr a 8) &&& 255)) 0 1 3) 1 3 ((iushr a 0) &&& 255)) 0 1 4) 1 4 ((iushr b 24) &&& 255)) 0 1 5) 1 5 ((iushr b 16) &&& 255)) 0 1 6) 1 6 ((iushr b 8) &&& 255)) 0 1 7) 1 7 ((iushr b 0) &&& 255)) 0 1 8) 1 8 ((iushr c 24) &&& 255)) 0 1 9) 1 9 ((iushr c 16) &&& 255)) 0 1 10) 1 10 ((iushr c 8) &&& 255)) 0 1 11) gs31 (wI M5 0 1 11) := cw_I h5 (by decide)
  generalize (wI M5 0 1 11) = M6 at h6 ⊢
  refine a_iinc (v := 0) dX10_putBytes_43 rfl (by decide) (Nat.le_of_ble_eq_true rfl) (lv2 := [(2, .int 0), (0, .ref 0), (1, .int c)]) rfl ?_
  refine a_goto 3 dX10_putBytes_46 (by decide) ?_
  refine a_iload_n dX10_putBytes_3 rfl rfl ?_
  refine a_if_lt 49 dX10_putBytes_4 (by decide) (fun c => absurd c (by decide)) (fun _ => ?_)
  refine a_aload_n dX10_putBytes_7 rfl rfl ?_
  refine a_get (v := .int 11) dX10_putBytes_8 fl_10_112 (cw_l h6 (by decide)) (cw_s h6 (by decide) rfl) (cw_gi h6 rfl (by decide) (by first | decide +kernel | rfl)) ?_
  refine a_sipush (v := 600) dX10_putBytes_11 (by decide) ?_
  refine a_icmp_ge 49 dX10_putBytes_14 (by decide) (fun c => absurd c (by decide)) (fun _ => ?_)
  refine a_aload_n dX10_putBytes_17 rfl rfl ?_
  refine a_get (v := .ref 1) dX10_putBytes_18 fl_10_9 (cw_l h6 (by decide)) (cw_s h6 (by decide) rfl) (cw_g h6 rfl (by decide +kernel)) ?_
  refine a_aload_n dX10_putBytes_21 rfl rfl ?_
  refine a_get (v := .int 11) dX10_putBytes_22 fl_10_112 (cw_l h6 (by decide)) (cw_s h6 (by decide) rfl) (cw_gi h6 rfl (by decide) (by first | decide +kernel | rfl)) ?_
  refine a_iload_n dX10_putBytes_25 rfl rfl ?_
  refine a_iload_n dX10_putBytes_26 rfl rfl ?_
  refine a_iushr dX10_putBytes_27 ?_
  refine a_sipush (v := 255) dX10_putBytes_28 (by decide) ?_
  refine a_iand dX10_putBytes_31 ?_
  refine a_iastore dX10_putBytes_32 (cw_l h6 (by decide)) (cw_s h6 (by decide) rfl) (by unfold vp_in; decide +kernel) ?_
  rw [show Int32.toNatClampNeg 11 = 11 from by decide +kernel]
  have h7 : Cw 126 Lj134 (up2 (up2 (up2 (up2 (up2 (up2 (up2 (up2 (up2 (up2 (up2 (up2 (up2 (up2 (up2 (up2 (up2 (up2 (up2 (up2 (up2 (up2 (up2 fs42 1 0 ((iushr a 24) &&& 255)) 0 1 1) 1 1 ((iushr a 16) &&& 255)) 0 1 2) 1 2 ((iushr a 8) &&& 255)) 0 1 3) 1 3 ((iushr a 0) &&& 255)) 0 1 4) 1 4 ((iushr b 24) &&& 255)) 0 1 5) 1 5 ((iushr b 16) &&& 255)) 0 1 6) 1 6 ((iushr b 8) &&& 255)) 0 1 7) 1 7 ((iushr b 0) &&& 255)) 0 1 8) 1 8 ((iushr c 24) &&& 255)) 0 1 9) 1 9 ((iushr c 16) &&& 255)) 0 1 10) 1 10 ((iushr c 8) &&& 255)) 0 1 11) 1 11 ((iushr c 0) &&& 255)) gs31 (wI M6 1 11 ((iushr c 0) &&& 255)) := cw_I h6 (by decide)
  generalize (wI M6 1 11 ((iushr c 0) &&& 255)) = M7 at h7 ⊢
  refine a_aload_n dX10_putBytes_33 rfl rfl ?_
  refine a_dup dX10_putBytes_34 rfl ?_
  refine a_get (v := .int 11) dX10_putBytes_35 fl_10_112 (cw_l h7 (by decide)) (cw_s h7 (by decide) rfl) (cw_gi h7 rfl (by decide) (by first | decide +kernel | rfl)) ?_
  refine a_iconst (v := 1) dX10_putBytes_38 (by decide) ?_
  refine a_iadd dX10_putBytes_39 ?_
  refine a_st (st2 := [.int 12, .ref 0]) (by decide +kernel) ?_
  refine a_putI dX10_putBytes_40 (Or.inl ⟨fl_10_112, Or.inl rfl⟩) rfl (cw_l h7 (by decide)) (cw_s h7 (by decide) rfl) rfl rfl ?_
  have h8 : Cw 126 Lj134 (up2 (up2 (up2 (up2 (up2 (up2 (up2 (up2 (up2 (up2 (up2 (up2 (up2 (up2 (up2 (up2 (up2 (up2 (up2 (up2 (up2 (up2 (up2 (up2 fs42 1 0 ((iushr a 24) &&& 255)) 0 1 1) 1 1 ((iushr a 16) &&& 255)) 0 1 2) 1 2 ((iushr a 8) &&& 255)) 0 1 3) 1 3 ((iushr a 0) &&& 255)) 0 1 4) 1 4 ((iushr b 24) &&& 255)) 0 1 5) 1 5 ((iushr b 16) &&& 255)) 0 1 6) 1 6 ((iushr b 8) &&& 255)) 0 1 7) 1 7 ((iushr b 0) &&& 255)) 0 1 8) 1 8 ((iushr c 24) &&& 255)) 0 1 9) 1 9 ((iushr c 16) &&& 255)) 0 1 10) 1 10 ((iushr c 8) &&& 255)) 0 1 11) 1 11 ((iushr c 0) &&& 255)) 0 1 12) gs31 (wI M7 0 1 12) := cw_I h7 (by decide)
  generalize (wI M7 0 1 12) = M8 at h8 ⊢
  refine a_iinc (v := (-8)) dX10_putBytes_43 rfl (by decide) (Nat.le_of_ble_eq_true rfl) (lv2 := [(2, .int (-8)), (0, .ref 0), (1, .int c)]) rfl ?_
  refine a_goto 3 dX10_putBytes_46 (by decide) ?_
  refine a_iload_n dX10_putBytes_3 rfl rfl ?_
  refine a_if_lt 49 dX10_putBytes_4 (by decide) (fun _ => ?_) (fun c => absurd (by decide) c)
  exact a_vret dX10_putBytes_49 rfl ⟨rfl, h8⟩
set_option maxHeartbeats 4000000 in
set_option maxRecDepth 100000 in
theorem z4_X10_putBytes {X : Nat × (Nat → Int32)} {fr : Nat} {M : Mem} (a : Int32) (b : Int32) (c : Int32) (d : Int32) (e : Int32) (h0 : Cw 126 Lj134 (up2 (up2 (up2 (up2 (up2 (up2 (up2 (up2 (up2 (up2 (up2 (up2 (up2 (up2 (up2 (up2 (up2 (up2 (up2 (up2 (up2 (up2 (up2 (up2 fs42 1 0 ((iushr a 24) &&& 255)) 0 1 1) 1 1 ((iushr a 16) &&& 255)) 0 1 2) 1 2 ((iushr a 8) &&& 255)) 0 1 3) 1 3 ((iushr a 0) &&& 255)) 0 1 4) 1 4 ((iushr b 24) &&& 255)) 0 1 5) 1 5 ((iushr b 16) &&& 255)) 0 1 6) 1 6 ((iushr b 8) &&& 255)) 0 1 7) 1 7 ((iushr b 0) &&& 255)) 0 1 8) 1 8 ((iushr c 24) &&& 255)) 0 1 9) 1 9 ((iushr c 16) &&& 255)) 0 1 10) 1 10 ((iushr c 8) &&& 255)) 0 1 11) 1 11 ((iushr c 0) &&& 255)) 0 1 12) gs31 M) : AM yX10_putBytes cX10_putBytes 3 none true (fr + 7) 0 0 X [.ref 0, .int d] M (fun v M1 => v = none ∧ Cw 126 Lj134 (up2 (up2 (up2 (up2 (up2 (up2 (up2 (up2 (up2 (up2 (up2 (up2 (up2 (up2 (up2 (up2 (up2 (up2 (up2 (up2 (up2 (up2 (up2 (up2 (up2 (up2 (up2 (up2 (up2 (up2 (up2 (up2 fs42 1 0 ((iushr a 24) &&& 255)) 0 1 1) 1 1 ((iushr a 16) &&& 255)) 0 1 2) 1 2 ((iushr a 8) &&& 255)) 0 1 3) 1 3 ((iushr a 0) &&& 255)) 0 1 4) 1 4 ((iushr b 24) &&& 255)) 0 1 5) 1 5 ((iushr b 16) &&& 255)) 0 1 6) 1 6 ((iushr b 8) &&& 255)) 0 1 7) 1 7 ((iushr b 0) &&& 255)) 0 1 8) 1 8 ((iushr c 24) &&& 255)) 0 1 9) 1 9 ((iushr c 16) &&& 255)) 0 1 10) 1 10 ((iushr c 8) &&& 255)) 0 1 11) 1 11 ((iushr c 0) &&& 255)) 0 1 12) 1 12 ((iushr d 24) &&& 255)) 0 1 13) 1 13 ((iushr d 16) &&& 255)) 0 1 14) 1 14 ((iushr d 8) &&& 255)) 0 1 15) 1 15 ((iushr d 0) &&& 255)) 0 1 16) gs31 M1) := by
  refine AM.of false (by decide +kernel) (by intro h; cases h) (Nat.le_of_ble_eq_true rfl) ?_
  show AW X (RX10, cX10_putBytes, 3, none, false, true, fr + 7) 0 0 0 [(0, .ref 0), (1, .int d)] [] M _
  refine a_bipush (v := 24) dX10_putBytes_0 (by decide) ?_
  refine a_istore_n dX10_putBytes_2 rfl (Nat.le_of_ble_eq_true rfl) (lv2 := [(2, .int 24), (0, .ref 0), (1, .int d)]) rfl ?_
  refine a_iload_n dX10_putBytes_3 rfl rfl ?_
  refine a_if_lt 49 dX10_putBytes_4 (by decide) (fun c => absurd c (by decide)) (fun _ => ?_)
  refine a_aload_n dX10_putBytes_7 rfl rfl ?_
  refine a_get (v := .int 12) dX10_putBytes_8 fl_10_112 (cw_l h0 (by decide)) (cw_s h0 (by decide) rfl) (cw_gi h0 rfl (by decide) (by first | decide +kernel | rfl)) ?_
  refine a_sipush (v := 600) dX10_putBytes_11 (by decide) ?_
  refine a_icmp_ge 49 dX10_putBytes_14 (by decide) (fun c => absurd c (by decide)) (fun _ => ?_)
  refine a_aload_n dX10_putBytes_17 rfl rfl ?_
  refine a_get (v := .ref 1) dX10_putBytes_18 fl_10_9 (cw_l h0 (by decide)) (cw_s h0 (by decide) rfl) (cw_g h0 rfl (by decide +kernel)) ?_
  refine a_aload_n dX10_putBytes_21 rfl rfl ?_
  refine a_get (v := .int 12) dX10_putBytes_22 fl_10_112 (cw_l h0 (by decide)) (cw_s h0 (by decide) rfl) (cw_gi h0 rfl (by decide) (by first | decide +kernel | rfl)) ?_
  refine a_iload_n dX10_putBytes_25 rfl rfl ?_
  refine a_iload_n dX10_putBytes_26 rfl rfl ?_
  refine a_iushr dX10_putBytes_27 ?_
  refine a_sipush (v := 255) dX10_putBytes_28 (by decide) ?_
  refine a_iand dX10_putBytes_31 ?_
  refine a_iastore dX10_putBytes_32 (cw_l h0 (by decide)) (cw_s h0 (by decide) rfl) (by unfold vp_in; decide +kernel) ?_
  rw [show Int32.toNatClampNeg 12 = 12 from by decide +kernel]
  have h1 : Cw 126 Lj134 (up2 (up2 (up2 (up2 (up2 (up2 (up2 (up2 (up2 (up2 (up2 (up2 (up2 (up2 (up2 (up2 (up2 (up2 (up2 (up2 (up2 (up2 (up2 (up2 (up2 fs42 1 0 ((iushr a 24) &&& 255)) 0 1 1) 1 1 ((iushr a 16) &&& 255)) 0 1 2) 1 2 ((iushr a 8) &&& 255)) 0 1 3) 1 3 ((iushr a 0) &&& 255)) 0 1 4) 1 4 ((iushr b 24) &&& 255)) 0 1 5) 1 5 ((iushr b 16) &&& 255)) 0 1 6) 1 6 ((iushr b 8) &&& 255)) 0 1 7) 1 7 ((iushr b 0) &&& 255)) 0 1 8) 1 8 ((iushr c 24) &&& 255)) 0 1 9) 1 9 ((iushr c 16) &&& 255)) 0 1 10) 1 10 ((iushr c 8) &&& 255)) 0 1 11) 1 11 ((iushr c 0) &&& 255)) 0 1 12) 1 12 ((iushr d 24) &&& 255)) gs31 (wI M 1 12 ((iushr d 24) &&& 255)) := cw_I h0 (by decide)
  generalize (wI M 1 12 ((iushr d 24) &&& 255)) = M1 at h1 ⊢
  refine a_aload_n dX10_putBytes_33 rfl rfl ?_
  refine a_dup dX10_putBytes_34 rfl ?_
  refine a_get (v := .int 12) dX10_putBytes_35 fl_10_112 (cw_l h1 (by decide)) (cw_s h1 (by decide) rfl) (cw_gi h1 rfl (by decide) (by first | decide +kernel | rfl)) ?_
  refine a_iconst (v := 1) dX10_putBytes_38 (by decide) ?_
  refine a_iadd dX10_putBytes_39 ?_
  refine a_st (st2 := [.int 13, .ref 0]) (by decide +kernel) ?_
  refine a_putI dX10_putBytes_40 (Or.inl ⟨fl_10_112, Or.inl rfl⟩) rfl (cw_l h1 (by decide)) (cw_s h1 (by decide) rfl) rfl rfl ?_
  have h2 : Cw 126 Lj134 (up2 (up2 (up2 (up2 (up2 (up2 (up2 (up2 (up2 (up2 (up2 (up2 (up2 (up2 (up2 (up2 (up2 (up2 (up2 (up2 (up2 (up2 (up2 (up2 (up2 (up2 fs42 1 0 ((iushr a 24) &&& 255)) 0 1 1) 1 1 ((iushr a 16) &&& 255)) 0 1 2) 1 2 ((iushr a 8) &&& 255)) 0 1 3) 1 3 ((iushr a 0) &&& 255)) 0 1 4) 1 4 ((iushr b 24) &&& 255)) 0 1 5) 1 5 ((iushr b 16) &&& 255)) 0 1 6) 1 6 ((iushr b 8) &&& 255)) 0 1 7) 1 7 ((iushr b 0) &&& 255)) 0 1 8) 1 8 ((iushr c 24) &&& 255)) 0 1 9) 1 9 ((iushr c 16) &&& 255)) 0 1 10) 1 10 ((iushr c 8) &&& 255)) 0 1 11) 1 11 ((iushr c 0) &&& 255)) 0 1 12) 1 12 ((iushr d 24) &&& 255)) 0 1 13) gs31 (wI M1 0 1 13) := cw_I h1 (by decide)
  generalize (wI M1 0 1 13) = M2 at h2 ⊢
  refine a_iinc (v := 16) dX10_putBytes_43 rfl (by decide) (Nat.le_of_ble_eq_true rfl) (lv2 := [(2, .int 16), (0, .ref 0), (1, .int d)]) rfl ?_
  refine a_goto 3 dX10_putBytes_46 (by decide) ?_
  refine a_iload_n dX10_putBytes_3 rfl rfl ?_
  refine a_if_lt 49 dX10_putBytes_4 (by decide) (fun c => absurd c (by decide)) (fun _ => ?_)
  refine a_aload_n dX10_putBytes_7 rfl rfl ?_
  refine a_get (v := .int 13) dX10_putBytes_8 fl_10_112 (cw_l h2 (by decide)) (cw_s h2 (by decide) rfl) (cw_gi h2 rfl (by decide) (by first | decide +kernel | rfl)) ?_
  refine a_sipush (v := 600) dX10_putBytes_11 (by decide) ?_
  refine a_icmp_ge 49 dX10_putBytes_14 (by decide) (fun c => absurd c (by decide)) (fun _ => ?_)
  refine a_aload_n dX10_putBytes_17 rfl rfl ?_
  refine a_get (v := .ref 1) dX10_putBytes_18 fl_10_9 (cw_l h2 (by decide)) (cw_s h2 (by decide) rfl) (cw_g h2 rfl (by decide +kernel)) ?_
  refine a_aload_n dX10_putBytes_21 rfl rfl ?_
  refine a_get (v := .int 13) dX10_putBytes_22 fl_10_112 (cw_l h2 (by decide)) (cw_s h2 (by decide) rfl) (cw_gi h2 rfl (by decide) (by first | decide +kernel | rfl)) ?_
  refine a_iload_n dX10_putBytes_25 rfl rfl ?_
  refine a_iload_n dX10_putBytes_26 rfl rfl ?_
  refine a_iushr dX10_putBytes_27 ?_
  refine a_sipush (v := 255) dX10_putBytes_28 (by decide) ?_
  refine a_iand dX10_putBytes_31 ?_
  refine a_iastore dX10_putBytes_32 (cw_l h2 (by decide)) (cw_s h2 (by decide) rfl) (by unfold vp_in; decide +kernel) ?_
  rw [show Int32.toNatClampNeg 13 = 13 from by decide +kernel]
  have h3 : Cw 126 Lj134 (up2 (up2 (up2 (up2 (up2 (up2 (up2 (up2 (up2 (up2 (up2 (up2 (up2 (up2 (up2 (up2 (up2 (up2 (up2 (up2 (up2 (up2 (up2 (up2 (up2 (up2 (up2 fs42 1 0 ((iushr a 24) &&& 255)) 0 1 1) 1 1 ((iushr a 16) &&& 255)) 0 1 2) 1 2 ((iushr a 8) &&& 255)) 0 1 3) 1 3 ((iushr a 0) &&& 255)) 0 1 4) 1 4 ((iushr b 24) &&& 255)) 0 1 5) 1 5 ((iushr b 16) &&& 255)) 0 1 6) 1 6 ((iushr b 8) &&& 255)) 0 1 7) 1 7 ((iushr b 0) &&& 255)) 0 1 8) 1 8 ((iushr c 24) &&& 255)) 0 1 9) 1 9 ((iushr c 16) &&& 255)) 0 1 10) 1 10 ((iushr c 8) &&& 255)) 0 1 11) 1 11 ((iushr c 0) &&& 255)) 0 1 12) 1 12 ((iushr d 24) &&& 255)) 0 1 13) 1 13 ((iushr d 16) &&& 255)) gs31 (wI M2 1 13 ((iushr d 16) &&& 255)) := cw_I h2 (by decide)
  generalize (wI M2 1 13 ((iushr d 16) &&& 255)) = M3 at h3 ⊢
  refine a_aload_n dX10_putBytes_33 rfl rfl ?_
  refine a_dup dX10_putBytes_34 rfl ?_
  refine a_get (v := .int 13) dX10_putBytes_35 fl_10_112 (cw_l h3 (by decide)) (cw_s h3 (by decide) rfl) (cw_gi h3 rfl (by decide) (by first | decide +kernel | rfl)) ?_
  refine a_iconst (v := 1) dX10_putBytes_38 (by decide) ?_
  refine a_iadd dX10_putBytes_39 ?_
  refine a_st (st2 := [.int 14, .ref 0]) (by decide +kernel) ?_
  refine a_putI dX10_putBytes_40 (Or.inl ⟨fl_10_112, Or.inl rfl⟩) rfl (cw_l h3 (by decide)) (cw_s h3 (by decide) rfl) rfl rfl ?_
  have h4 : Cw 126 Lj134 (up2 (up2 (up2 (up2 (up2 (up2 (up2 (up2 (up2 (up2 (up2 (up2 (up2 (up2 (up2 (up2 (up2 (up2 (up2 (up2 (up2 (up2 (up2 (up2 (up2 (up2 (up2 (up2 fs42 1 0 ((iushr a 24) &&& 255)) 0 1 1) 1 1 ((iushr a 16) &&& 255)) 0 1 2) 1 2 ((iushr a 8) &&& 255)) 0 1 3) 1 3 ((iushr a 0) &&& 255)) 0 1 4) 1 4 ((iushr b 24) &&& 255)) 0 1 5) 1 5 ((iushr b 16) &&& 255)) 0 1 6) 1 6 ((iushr b 8) &&& 255)) 0 1 7) 1 7 ((iushr b 0) &&& 255)) 0 1 8) 1 8 ((iushr c 24) &&& 255)) 0 1 9) 1 9 ((iushr c 16) &&& 255)) 0 1 10) 1 10 ((iushr c 8) &&& 255)) 0 1 11) 1 11 ((iushr c 0) &&& 255)) 0 1 12) 1 12 ((iushr d 24) &&& 255)) 0 1 13) 1 13 ((iushr d 16) &&& 255)) 0 1 14) gs31 (wI M3 0 1 14) := cw_I h3 (by decide)
  generalize (wI M3 0 1 14) = M4 at h4 ⊢
  refine a_iinc (v := 8) dX10_putBytes_43 rfl (by decide) (Nat.le_of_ble_eq_true rfl) (lv2 := [(2, .int 8), (0, .ref 0), (1, .int d)]) rfl ?_
  refine a_goto 3 dX10_putBytes_46 (by decide) ?_
  refine a_iload_n dX10_putBytes_3 rfl rfl ?_
  refine a_if_lt 49 dX10_putBytes_4 (by decide) (fun c => absurd c (by decide)) (fun _ => ?_)
  refine a_aload_n dX10_putBytes_7 rfl rfl ?_
  refine a_get (v := .int 14) dX10_putBytes_8 fl_10_112 (cw_l h4 (by decide)) (cw_s h4 (by decide) rfl) (cw_gi h4 rfl (by decide) (by first | decide +kernel | rfl)) ?_
  refine a_sipush (v := 600) dX10_putBytes_11 (by decide) ?_
  refine a_icmp_ge 49 dX10_putBytes_14 (by decide) (fun c => absurd c (by decide)) (fun _ => ?_)
  refine a_aload_n dX10_putBytes_17 rfl rfl ?_
  refine a_get (v := .ref 1) dX10_putBytes_18 fl_10_9 (cw_l h4 (by decide)) (cw_s h4 (by decide) rfl) (cw_g h4 rfl (by decide +kernel)) ?_
  refine a_aload_n dX10_putBytes_21 rfl rfl ?_
  refine a_get (v := .int 14) dX10_putBytes_22 fl_10_112 (cw_l h4 (by decide)) (cw_s h4 (by decide) rfl) (cw_gi h4 rfl (by decide) (by first | decide +kernel | rfl)) ?_
  refine a_iload_n dX10_putBytes_25 rfl rfl ?_
  refine a_iload_n dX10_putBytes_26 rfl rfl ?_
  refine a_iushr dX10_putBytes_27 ?_
  refine a_sipush (v := 255) dX10_putBytes_28 (by decide) ?_
  refine a_iand dX10_putBytes_31 ?_
  refine a_iastore dX10_putBytes_32 (cw_l h4 (by decide)) (cw_s h4 (by decide) rfl) (by unfold vp_in; decide +kernel) ?_
  rw [show Int32.toNatClampNeg 14 = 14 from by decide +kernel]
  have h5 : Cw 126 Lj134 (up2 (up2 (up2 (up2 (up2 (up2 (up2 (up2 (up2 (up2 (up2 (up2 (up2 (up2 (up2 (up2 (up2 (up2 (up2 (up2 (up2 (up2 (up2 (up2 (up2 (up2 (up2 (up2 (up2 fs42 1 0 ((iushr a 24) &&& 255)) 0 1 1) 1 1 ((iushr a 16) &&& 255)) 0 1 2) 1 2 ((iushr a 8) &&& 255)) 0 1 3) 1 3 ((iushr a 0) &&& 255)) 0 1 4) 1 4 ((iushr b 24) &&& 255)) 0 1 5) 1 5 ((iushr b 16) &&& 255)) 0 1 6) 1 6 ((iushr b 8) &&& 255)) 0 1 7) 1 7 ((iushr b 0) &&& 255)) 0 1 8) 1 8 ((iushr c 24) &&& 255)) 0 1 9) 1 9 ((iushr c 16) &&& 255)) 0 1 10) 1 10 ((iushr c 8) &&& 255)) 0 1 11) 1 11 ((iushr c 0) &&& 255)) 0 1 12) 1 12 ((iushr d 24) &&& 255)) 0 1 13) 1 13 ((iushr d 16) &&& 255)) 0 1 14) 1 14 ((iushr d 8) &&& 255)) gs31 (wI M4 1 14 ((iushr d 8) &&& 255)) := cw_I h4 (by decide)
  generalize (wI M4 1 14 ((iushr d 8) &&& 255)) = M5 at h5 ⊢
  refine a_aload_n dX10_putBytes_33 rfl rfl ?_
  refine a_dup dX10_putBytes_34 rfl ?_
  refine a_get (v := .int 14) dX10_putBytes_35 fl_10_112 (cw_l h5 (by decide)) (cw_s h5 (by decide) rfl) (cw_gi h5 rfl (by decide) (by first | decide +kernel | rfl)) ?_
  refine a_iconst (v := 1) dX10_putBytes_38 (by decide) ?_
  refine a_iadd dX10_putBytes_39 ?_
  refine a_st (st2 := [.int 15, .ref 0]) (by decide +kernel) ?_
  refine a_putI dX10_putBytes_40 (Or.inl ⟨fl_10_112, Or.inl rfl⟩) rfl (cw_l h5 (by decide)) (cw_s h5 (by decide) rfl) rfl rfl ?_
  have h6 : Cw 126 Lj134 (up2 (up2 (up2 (up2 (up2 (up2 (up2 (up2 (up2 (up2 (up2 (up2 (up2 (up2 (up2 (up2 (up2 (up2 (up2 (up2 (up2 (up2 (up2 (up2 (up2 (up2 (up2 (up2 (up2 (up2 fs42 1 0 ((iushr a 24) &&& 255)) 0 1 1) 1 1 ((iushr a 16) &&& 255)) 0 1 2) 1 2 ((iushr a 8) &&& 255)) 0 1 3) 1 3 ((iushr a 0) &&& 255)) 0 1 4) 1 4 ((iushr b 24) &&& 255)) 0 1 5) 1 5 ((iushr b 16) &&& 255)) 0 1 6) 1 6 ((iushr b 8) &&& 255)) 0 1 7) 1 7 ((iushr b 0) &&& 255)) 0 1 8) 1 8 ((iushr c 24) &&& 255)) 0 1 9) 1 9 ((iushr c 16) &&& 255)) 0 1 10) 1 10 ((iushr c 8) &&& 255)) 0 1 11) 1 11 ((iushr c 0) &&& 255)) 0 1 12) 1 12 ((iushr d 24) &&& 255)) 0 1 13) 1 13 ((iushr d 16) &&& 255)) 0 1 14) 1 14 ((iushr d 8) &&& 255)) 0 1 15) gs31 (wI M5 0 1 15) := cw_I h5 (by decide)
  generalize (wI M5 0 1 15) = M6 at h6 ⊢
  refine a_iinc (v := 0) dX10_putBytes_43 rfl (by decide) (Nat.le_of_ble_eq_true rfl) (lv2 := [(2, .int 0), (0, .ref 0), (1, .int d)]) rfl ?_
  refine a_goto 3 dX10_putBytes_46 (by decide) ?_
  refine a_iload_n dX10_putBytes_3 rfl rfl ?_
  refine a_if_lt 49 dX10_putBytes_4 (by decide) (fun c => absurd c (by decide)) (fun _ => ?_)
  refine a_aload_n dX10_putBytes_7 rfl rfl ?_
  refine a_get (v := .int 15) dX10_putBytes_8 fl_10_112 (cw_l h6 (by decide)) (cw_s h6 (by decide) rfl) (cw_gi h6 rfl (by decide) (by first | decide +kernel | rfl)) ?_
  refine a_sipush (v := 600) dX10_putBytes_11 (by decide) ?_
  refine a_icmp_ge 49 dX10_putBytes_14 (by decide) (fun c => absurd c (by decide)) (fun _ => ?_)
  refine a_aload_n dX10_putBytes_17 rfl rfl ?_
  refine a_get (v := .ref 1) dX10_putBytes_18 fl_10_9 (cw_l h6 (by decide)) (cw_s h6 (by decide) rfl) (cw_g h6 rfl (by decide +kernel)) ?_
  refine a_aload_n dX10_putBytes_21 rfl rfl ?_
  refine a_get (v := .int 15) dX10_putBytes_22 fl_10_112 (cw_l h6 (by decide)) (cw_s h6 (by decide) rfl) (cw_gi h6 rfl (by decide) (by first | decide +kernel | rfl)) ?_
  refine a_iload_n dX10_putBytes_25 rfl rfl ?_
  refine a_iload_n dX10_putBytes_26 rfl rfl ?_
  refine a_iushr dX10_putBytes_27 ?_
  refine a_sipush (v := 255) dX10_putBytes_28 (by decide) ?_
  refine a_iand dX10_putBytes_31 ?_
  refine a_iastore dX10_putBytes_32 (cw_l h6 (by decide)) (cw_s h6 (by decide) rfl) (by unfold vp_in; decide +kernel) ?_
  rw [show Int32.toNatClampNeg 15 = 15 from by decide +kernel]
  have h7 : Cw 126 Lj134 (up2 (up2 (up2 (up2 (up2 (up2 (up2 (up2 (up2 (up2 (up2 (up2 (up2 (up2 (up2 (up2 (up2 (up2 (up2 (up2 (up2 (up2 (up2 (up2 (up2 (up2 (up2 (up2 (up2 (up2 (up2 fs42 1 0 ((iushr a 24) &&& 255)) 0 1 1) 1 1 ((iushr a 16) &&& 255)) 0 1 2) 1 2 ((iushr a 8) &&& 255)) 0 1 3) 1 3 ((iushr a 0) &&& 255)) 0 1 4) 1 4 ((iushr b 24) &&& 255)) 0 1 5) 1 5 ((iushr b 16) &&& 255)) 0 1 6) 1 6 ((iushr b 8) &&& 255)) 0 1 7) 1 7 ((iushr b 0) &&& 255)) 0 1 8) 1 8 ((iushr c 24) &&& 255)) 0 1 9) 1 9 ((iushr c 16) &&& 255)) 0 1 10) 1 10 ((iushr c 8) &&& 255)) 0 1 11) 1 11 ((iushr c 0) &&& 255)) 0 1 12) 1 12 ((iushr d 24) &&& 255)) 0 1 13) 1 13 ((iushr d 16) &&& 255)) 0 1 14) 1 14 ((iushr d 8) &&& 255)) 0 1 15) 1 15 ((iushr d 0) &&& 255)) gs31 (wI M6 1 15 ((iushr d 0) &&& 255)) := cw_I h6 (by decide)
  generalize (wI M6 1 15 ((iushr d 0) &&& 255)) = M7 at h7 ⊢
  refine a_aload_n dX10_putBytes_33 rfl rfl ?_
  refine a_dup dX10_putBytes_34 rfl ?_
  refine a_get (v := .int 15) dX10_putBytes_35 fl_10_112 (cw_l h7 (by decide)) (cw_s h7 (by decide) rfl) (cw_gi h7 rfl (by decide) (by first | decide +kernel | rfl)) ?_
  refine a_iconst (v := 1) dX10_putBytes_38 (by decide) ?_
  refine a_iadd dX10_putBytes_39 ?_
  refine a_st (st2 := [.int 16, .ref 0]) (by decide +kernel) ?_
  refine a_putI dX10_putBytes_40 (Or.inl ⟨fl_10_112, Or.inl rfl⟩) rfl (cw_l h7 (by decide)) (cw_s h7 (by decide) rfl) rfl rfl ?_
  have h8 : Cw 126 Lj134 (up2 (up2 (up2 (up2 (up2 (up2 (up2 (up2 (up2 (up2 (up2 (up2 (up2 (up2 (up2 (up2 (up2 (up2 (up2 (up2 (up2 (up2 (up2 (up2 (up2 (up2 (up2 (up2 (up2 (up2 (up2 (up2 fs42 1 0 ((iushr a 24) &&& 255)) 0 1 1) 1 1 ((iushr a 16) &&& 255)) 0 1 2) 1 2 ((iushr a 8) &&& 255)) 0 1 3) 1 3 ((iushr a 0) &&& 255)) 0 1 4) 1 4 ((iushr b 24) &&& 255)) 0 1 5) 1 5 ((iushr b 16) &&& 255)) 0 1 6) 1 6 ((iushr b 8) &&& 255)) 0 1 7) 1 7 ((iushr b 0) &&& 255)) 0 1 8) 1 8 ((iushr c 24) &&& 255)) 0 1 9) 1 9 ((iushr c 16) &&& 255)) 0 1 10) 1 10 ((iushr c 8) &&& 255)) 0 1 11) 1 11 ((iushr c 0) &&& 255)) 0 1 12) 1 12 ((iushr d 24) &&& 255)) 0 1 13) 1 13 ((iushr d 16) &&& 255)) 0 1 14) 1 14 ((iushr d 8) &&& 255)) 0 1 15) 1 15 ((iushr d 0) &&& 255)) 0 1 16) gs31 (wI M7 0 1 16) := cw_I h7 (by decide)
  generalize (wI M7 0 1 16) = M8 at h8 ⊢
  refine a_iinc (v := (-8)) dX10_putBytes_43 rfl (by decide) (Nat.le_of_ble_eq_true rfl) (lv2 := [(2, .int (-8)), (0, .ref 0), (1, .int d)]) rfl ?_
  refine a_goto 3 dX10_putBytes_46 (by decide) ?_
  refine a_iload_n dX10_putBytes_3 rfl rfl ?_
  refine a_if_lt 49 dX10_putBytes_4 (by decide) (fun _ => ?_) (fun c => absurd (by decide) c)
  exact a_vret dX10_putBytes_49 rfl ⟨rfl, h8⟩
set_option maxHeartbeats 4000000 in
set_option maxRecDepth 100000 in
theorem z5_X10_putBytes {X : Nat × (Nat → Int32)} {fr : Nat} {M : Mem} (a : Int32) (b : Int32) (c : Int32) (d : Int32) (e : Int32) (h0 : Cw 126 Lj134 (up2 (up2 (up2 (up2 (up2 (up2 (up2 (up2 (up2 (up2 (up2 (up2 (up2 (up2 (up2 (up2 (up2 (up2 (up2 (up2 (up2 (up2 (up2 (up2 (up2 (up2 (up2 (up2 (up2 (up2 (up2 (up2 fs42 1 0 ((iushr a 24) &&& 255)) 0 1 1) 1 1 ((iushr a 16) &&& 255)) 0 1 2) 1 2 ((iushr a 8) &&& 255)) 0 1 3) 1 3 ((iushr a 0) &&& 255)) 0 1 4) 1 4 ((iushr b 24) &&& 255)) 0 1 5) 1 5 ((iushr b 16) &&& 255)) 0 1 6) 1 6 ((iushr b 8) &&& 255)) 0 1 7) 1 7 ((iushr b 0) &&& 255)) 0 1 8) 1 8 ((iushr c 24) &&& 255)) 0 1 9) 1 9 ((iushr c 16) &&& 255)) 0 1 10) 1 10 ((iushr c 8) &&& 255)) 0 1 11) 1 11 ((iushr c 0) &&& 255)) 0 1 12) 1 12 ((iushr d 24) &&& 255)) 0 1 13) 1 13 ((iushr d 16) &&& 255)) 0 1 14) 1 14 ((iushr d 8) &&& 255)) 0 1 15) 1 15 ((iushr d 0) &&& 255)) 0 1 16) gs31 M) : AM yX10_putBytes cX10_putBytes 3 none true (fr + 7) 0 0 X [.ref 0, .int e] M (fun v M1 => v = none ∧ Cw 126 Lj134 (up2 (up2 (up2 (up2 (up2 (up2 (up2 (up2 (up2 (up2 (up2 (up2 (up2 (up2 (up2 (up2 (up2 (up2 (up2 (up2 (up2 (up2 (up2 (up2 (up2 (up2 (up2 (up2 (up2 (up2 (up2 (up2 (up2 (up2 (up2 (up2 (up2 (up2 (up2 (up2 fs42 1 0 ((iushr a 24) &&& 255)) 0 1 1) 1 1 ((iushr a 16) &&& 255)) 0 1 2) 1 2 ((iushr a 8) &&& 255)) 0 1 3) 1 3 ((iushr a 0) &&& 255)) 0 1 4) 1 4 ((iushr b 24) &&& 255)) 0 1 5) 1 5 ((iushr b 16) &&& 255)) 0 1 6) 1 6 ((iushr b 8) &&& 255)) 0 1 7) 1 7 ((iushr b 0) &&& 255)) 0 1 8) 1 8 ((iushr c 24) &&& 255)) 0 1 9) 1 9 ((iushr c 16) &&& 255)) 0 1 10) 1 10 ((iushr c 8) &&& 255)) 0 1 11) 1 11 ((iushr c 0) &&& 255)) 0 1 12) 1 12 ((iushr d 24) &&& 255)) 0 1 13) 1 13 ((iushr d 16) &&& 255)) 0 1 14) 1 14 ((iushr d 8) &&& 255)) 0 1 15) 1 15 ((iushr d 0) &&& 255)) 0 1 16) 1 16 ((iushr e 24) &&& 255)) 0 1 17) 1 17 ((iushr e 16) &&& 255)) 0 1 18) 1 18 ((iushr e 8) &&& 255)) 0 1 19) 1 19 ((iushr e 0) &&& 255)) 0 1 20) gs31 M1) := by
  refine AM.of false (by decide +kernel) (by intro h; cases h) (Nat.le_of_ble_eq_true rfl) ?_
  show AW X (RX10, cX10_putBytes, 3, none, false, true, fr + 7) 0 0 0 [(0, .ref 0), (1, .int e)] [] M _
  refine a_bipush (v := 24) dX10_putBytes_0 (by decide) ?_
  refine a_istore_n dX10_putBytes_2 rfl (Nat.le_of_ble_eq_true rfl) (lv2 := [(2, .int 24), (0, .ref 0), (1, .int e)]) rfl ?_
  refine a_iload_n dX10_putBytes_3 rfl rfl ?_
  refine a_if_lt 49 dX10_putBytes_4 (by decide) (fun c => absurd c (by decide)) (fun _ => ?_)
  refine a_aload_n dX10_putBytes_7 rfl rfl ?_
  refine a_get (v := .int 16) dX10_putBytes_8 fl_10_112 (cw_l h0 (by decide)) (cw_s h0 (by decide) rfl) (cw_gi h0 rfl (by decide) (by first | decide +kernel | rfl)) ?_
  refine a_sipush (v := 600) dX10_putBytes_11 (by decide) ?_
  refine a_icmp_ge 49 dX10_putBytes_14 (by decide) (fun c => absurd c (by decide)) (fun _ => ?_)
  refine a_aload_n dX10_putBytes_17 rfl rfl ?_
  refine a_get (v := .ref 1) dX10_putBytes_18 fl_10_9 (cw_l h0 (by decide)) (cw_s h0 (by decide) rfl) (cw_g h0 rfl (by decide +kernel)) ?_
  refine a_aload_n dX10_putBytes_21 rfl rfl ?_
  refine a_get (v := .int 16) dX10_putBytes_22 fl_10_112 (cw_l h0 (by decide)) (cw_s h0 (by decide) rfl) (cw_gi h0 rfl (by decide) (by first | decide +kernel | rfl)) ?_
  refine a_iload_n dX10_putBytes_25 rfl rfl ?_
  refine a_iload_n dX10_putBytes_26 rfl rfl ?_
  refine a_iushr dX10_putBytes_27 ?_
  refine a_sipush (v := 255) dX10_putBytes_28 (by decide) ?_
  refine a_iand dX10_putBytes_31 ?_
  refine a_iastore dX10_putBytes_32 (cw_l h0 (by decide)) (cw_s h0 (by decide) rfl) (by unfold vp_in; decide +kernel) ?_
  rw [show Int32.toNatClampNeg 16 = 16 from by decide +kernel]
  have h1 : Cw 126 Lj134 (up2 (up2 (up2 (up2 (up2 (up2 (up2 (up2 (up2 (up2 (up2 (up2 (up2 (up2 (up2 (up2 (up2 (up2 (up2 (up2 (up2 (up2 (up2 (up2 (up2 (up2 (up2 (up2 (up2 (up2 (up2 (up2 (up2 fs42 1 0 ((iushr a 24) &&& 255)) 0 1 1) 1 1 ((iushr a 16) &&& 255)) 0 1 2) 1 2 ((iushr a 8) &&& 255)) 0 1 3) 1 3 ((iushr a 0) &&& 255)) 0 1 4) 1 4 ((iushr b 24) &&& 255)) 0 1 5) 1 5 ((iushr b 16) &&& 255)) 0 1 6) 1 6 ((iushr b 8) &&& 255)) 0 1 7) 1 7 ((iushr b 0) &&& 255)) 0 1 8) 1 8 ((iushr c 24) &&& 255)) 0 1 9) 1 9 ((iushr c 16) &&& 255)) 0 1 10) 1 10 ((iushr c 8) &&& 255)) 0 1 11) 1 11 ((iushr c 0) &&& 255)) 0 1 12) 1 12 ((iushr d 24) &&& 255)) 0 1 13) 1 13 ((iushr d 16) &&& 255)) 0 1 14) 1 14 ((iushr d 8) &&& 255)) 0 1 15) 1 15 ((iushr d 0) &&& 255)) 0 1 16) 1 16 ((iushr e 24) &&& 255)) gs31 (wI M 1 16 ((iushr e 24) &&& 255)) := cw_I h0 (by decide)
  generalize (wI M 1 16 ((iushr e 24) &&& 255)) = M1 at h1 ⊢
  refine a_aload_n dX10_putBytes_33 rfl rfl ?_
  refine a_dup dX10_putBytes_34 rfl ?_
  refine a_get (v := .int 16) dX10_putBytes_35 fl_10_112 (cw_l h1 (by decide)) (cw_s h1 (by decide) rfl) (cw_gi h1 rfl (by decide) (by first | decide +kernel | rfl)) ?_
  refine a_iconst (v := 1) dX10_putBytes_38 (by decide) ?_
  refine a_iadd dX10_putBytes_39 ?_
  refine a_st (st2 := [.int 17, .ref 0]) (by decide +kernel) ?_
  refine a_putI dX10_putBytes_40 (Or.inl ⟨fl_10_112, Or.inl rfl⟩) rfl (cw_l h1 (by decide)) (cw_s h1 (by decide) rfl) rfl rfl ?_
  have h2 : Cw 126 Lj134 (up2 (up2 (up2 (up2 (up2 (up2 (up2 (up2 (up2 (up2 (up2 (up2 (up2 (up2 (up2 (up2 (up2 (up2 (up2 (up2 (up2 (up2 (up2 (up2 (up2 (up2 (up2 (up2 (up2 (up2 (up2 (up2 (up2 (up2 fs42 1 0 ((iushr a 24) &&& 255)) 0 1 1) 1 1 ((iushr a 16) &&& 255)) 0 1 2) 1 2 ((iushr a 8) &&& 255)) 0 1 3) 1 3 ((iushr a 0) &&& 255)) 0 1 4) 1 4 ((iushr b 24) &&& 255)) 0 1 5) 1 5 ((iushr b 16) &&& 255)) 0 1 6) 1 6 ((iushr b 8) &&& 255)) 0 1 7) 1 7 ((iushr b 0) &&& 255)) 0 1 8) 1 8 ((iushr c 24) &&& 255)) 0 1 9) 1 9 ((iushr c 16) &&& 255)) 0 1 10) 1 10 ((iushr c 8) &&& 255)) 0 1 11) 1 11 ((iushr c 0) &&& 255)) 0 1 12) 1 12 ((iushr d 24) &&& 255)) 0 1 13) 1 13 ((iushr d 16) &&& 255)) 0 1 14) 1 14 ((iushr d 8) &&& 255)) 0 1 15) 1 15 ((iushr d 0) &&& 255)) 0 1 16) 1 16 ((iushr e 24) &&& 255)) 0 1 17) gs31 (wI M1 0 1 17) := cw_I h1 (by decide)
  generalize (wI M1 0 1 17) = M2 at h2 ⊢
  refine a_iinc (v := 16) dX10_putBytes_43 rfl (by decide) (Nat.le_of_ble_eq_true rfl) (lv2 := [(2, .int 16), (0, .ref 0), (1, .int e)]) rfl ?_
  refine a_goto 3 dX10_putBytes_46 (by decide) ?_
  refine a_iload_n dX10_putBytes_3 rfl rfl ?_
  refine a_if_lt 49 dX10_putBytes_4 (by decide) (fun c => absurd c (by decide)) (fun _ => ?_)
  refine a_aload_n dX10_putBytes_7 rfl rfl ?_
  refine a_get (v := .int 17) dX10_putBytes_8 fl_10_112 (cw_l h2 (by decide)) (cw_s h2 (by decide) rfl) (cw_gi h2 rfl (by decide) (by first | decide +kernel | rfl)) ?_
  refine a_sipush (v := 600) dX10_putBytes_11 (by decide) ?_
  refine a_icmp_ge 49 dX10_putBytes_14 (by decide) (fun c => absurd c (by decide)) (fun _ => ?_)
  refine a_aload_n dX10_putBytes_17 rfl rfl ?_
  refine a_get (v := .ref 1) dX10_putBytes_18 fl_10_9 (cw_l h2 (by decide)) (cw_s h2 (by decide) rfl) (cw_g h2 rfl (by decide +kernel)) ?_
  refine a_aload_n dX10_putBytes_21 rfl rfl ?_
  refine a_get (v := .int 17) dX10_putBytes_22 fl_10_112 (cw_l h2 (by decide)) (cw_s h2 (by decide) rfl) (cw_gi h2 rfl (by decide) (by first | decide +kernel | rfl)) ?_
  refine a_iload_n dX10_putBytes_25 rfl rfl ?_
  refine a_iload_n dX10_putBytes_26 rfl rfl ?_
  refine a_iushr dX10_putBytes_27 ?_
  refine a_sipush (v := 255) dX10_putBytes_28 (by decide) ?_
  refine a_iand dX10_putBytes_31 ?_
  refine a_iastore dX10_putBytes_32 (cw_l h2 (by decide)) (cw_s h2 (by decide) rfl) (by unfold vp_in; decide +kernel) ?_
  rw [show Int32.toNatClampNeg 17 = 17 from by decide +kernel]
  have h3 : Cw 126 Lj134 (up2 (up2 (up2 (up2 (up2 (up2 (up2 (up2 (up2 (up2 (up2 (up2 (up2 (up2 (up2 (up2 (up2 (up2 (up2 (up2 (up2 (up2 (up2 (up2 (up2 (up2 (up2 (up2 (up2 (up2 (up2 (up2 (up2 (up2 (up2 fs42 1 0 ((iushr a 24) &&& 255)) 0 1 1) 1 1 ((iushr a 16) &&& 255)) 0 1 2) 1 2 ((iushr a 8) &&& 255)) 0 1 3) 1 3 ((iushr a 0) &&& 255)) 0 1 4) 1 4 ((iushr b 24) &&& 255)) 0 1 5) 1 5 ((iushr b 16) &&& 255)) 0 1 6) 1 6 ((iushr b 8) &&& 255)) 0 1 7) 1 7 ((iushr b 0) &&& 255)) 0 1 8) 1 8 ((iushr c 24) &&& 255)) 0 1 9) 1 9 ((iushr c 16) &&& 255)) 0 1 10) 1 10 ((iushr c 8) &&& 255)) 0 1 11) 1 11 ((iushr c 0) &&& 255)) 0 1 12) 1 12 ((iushr d 24) &&& 255)) 0 1 13) 1 13 ((iushr d 16) &&& 255)) 0 1 14) 1 14 ((iushr d 8) &&& 255)) 0 1 15) 1 15 ((iushr d 0) &&& 255)) 0 1 16) 1 16 ((iushr e 24) &&& 255)) 0 1 17) 1 17 ((iushr e 16) &&& 255)) gs31 (wI M2 1 17 ((iushr e 16) &&& 255)) := cw_I h2 (by decide)
  generalize (wI M2 1 17 ((iushr e 16) &&& 255)) = M3 at h3 ⊢
  refine a_aload_n dX10_putBytes_33 rfl rfl ?_
  refine a_dup dX10_putBytes_34 rfl ?_
  refine a_get (v := .int 17) dX10_putBytes_35 fl_10_112 (cw_l h3 (by decide)) (cw_s h3 (by decide) rfl) (cw_gi h3 rfl (by decide) (by first | decide +kernel | rfl)) ?_
  refine a_iconst (v := 1) dX10_putBytes_38 (by decide) ?_
  refine a_iadd dX10_putBytes_39 ?_
  refine a_st (st2 := [.int 18, .ref 0]) (by decide +kernel) ?_
  refine a_putI dX10_putBytes_40 (Or.inl ⟨fl_10_112, Or.inl rfl⟩) rfl (cw_l h3 (by decide)) (cw_s h3 (by decide) rfl) rfl rfl ?_
  have h4 : Cw 126 Lj134 (up2 (up2 (up2 (up2 (up2 (up2 (up2 (up2 (up2 (up2 (up2 (up2 (up2 (up2 (up2 (up2 (up2 (up2 (up2 (up2 (up2 (up2 (up2 (up2 (up2 (up2 (up2 (up2 (up2 (up2 (up2 (up2 (up2 (up2 (up2 (up2 fs42 1 0 ((iushr a 24) &&& 255)) 0 1 1) 1 1 ((iushr a 16) &&& 255)) 0 1 2) 1 2 ((iushr a 8) &&& 255)) 0 1 3) 1 3 ((iushr a 0) &&& 255)) 0 1 4) 1 4 ((iushr b 24) &&& 255)) 0 1 5) 1 5 ((iushr b 16) &&& 255)) 0 1 6) 1 6 ((iushr b 8) &&& 255)) 0 1 7) 1 7 ((iushr b 0) &&& 255)) 0 1 8) 1 8 ((iushr c 24) &&& 255)) 0 1 9) 1 9 ((iushr c 16) &&& 255)) 0 1 10) 1 10 ((iushr c 8) &&& 255)) 0 1 11) 1 11 ((iushr c 0) &&& 255)) 0 1 12) 1 12 ((iushr d 24) &&& 255)) 0 1 13) 1 13 ((iushr d 16) &&& 255)) 0 1 14) 1 14 ((iushr d 8) &&& 255)) 0 1 15) 1 15 ((iushr d 0) &&& 255)) 0 1 16) 1 16 ((iushr e 24) &&& 255)) 0 1 17) 1 17 ((iushr e 16) &&& 255)) 0 1 18) gs31 (wI M3 0 1 18) := cw_I h3 (by decide)
  generalize (wI M3 0 1 18) = M4 at h4 ⊢
  refine a_iinc (v := 8) dX10_putBytes_43 rfl (by decide) (Nat.le_of_ble_eq_true rfl) (lv2 := [(2, .int 8), (0, .ref 0), (1, .int e)]) rfl ?_
  refine a_goto 3 dX10_putBytes_46 (by decide) ?_
  refine a_iload_n dX10_putBytes_3 rfl rfl ?_
  refine a_if_lt 49 dX10_putBytes_4 (by decide) (fun c => absurd c (by decide)) (fun _ => ?_)
  refine a_aload_n dX10_putBytes_7 rfl rfl ?_
  refine a_get (v := .int 18) dX10_putBytes_8 fl_10_112 (cw_l h4 (by decide)) (cw_s h4 (by decide) rfl) (cw_gi h4 rfl (by decide) (by first | decide +kernel | rfl)) ?_
  refine a_sipush (v := 600) dX10_putBytes_11 (by decide) ?_
  refine a_icmp_ge 49 dX10_putBytes_14 (by decide) (fun c => absurd c (by decide)) (fun _ => ?_)
  refine a_aload_n dX10_putBytes_17 rfl rfl ?_
  refine a_get (v := .ref 1) dX10_putBytes_18 fl_10_9 (cw_l h4 (by decide)) (cw_s h4 (by decide) rfl) (cw_g h4 rfl (by decide +kernel)) ?_
  refine a_aload_n dX10_putBytes_21 rfl rfl ?_
  refine a_get (v := .int 18) dX10_putBytes_22 fl_10_112 (cw_l h4 (by decide)) (cw_s h4 (by decide) rfl) (cw_gi h4 rfl (by decide) (by first | decide +kernel | rfl)) ?_
  refine a_iload_n dX10_putBytes_25 rfl rfl ?_
  refine a_iload_n dX10_putBytes_26 rfl rfl ?_
  refine a_iushr dX10_putBytes_27 ?_
  refine a_sipush (v := 255) dX10_putBytes_28 (by decide) ?_
  refine a_iand dX10_putBytes_31 ?_
  refine a_iastore dX10_putBytes_32 (cw_l h4 (by decide)) (cw_s h4 (by decide) rfl) (by unfold vp_in; decide +kernel) ?_
  rw [show Int32.toNatClampNeg 18 = 18 from by decide +kernel]
  have h5 : Cw 126 Lj134 (up2 (up2 (up2 (up2 (up2 (up2 (up2 (up2 (up2 (up2 (up2 (up2 (up2 (up2 (up2 (up2 (up2 (up2 (up2 (up2 (up2 (up2 (up2 (up2 (up2 (up2 (up2 (up2 (up2 (up2 (up2 (up2 (up2 (up2 (up2 (up2 (up2 fs42 1 0 ((iushr a 24) &&& 255)) 0 1 1) 1 1 ((iushr a 16) &&& 255)) 0 1 2) 1 2 ((iushr a 8) &&& 255)) 0 1 3) 1 3 ((iushr a 0) &&& 255)) 0 1 4) 1 4 ((iushr b 24) &&& 255)) 0 1 5) 1 5 ((iushr b 16) &&& 255)) 0 1 6) 1 6 ((iushr b 8) &&& 255)) 0 1 7) 1 7 ((iushr b 0) &&& 255)) 0 1 8) 1 8 ((iushr c 24) &&& 255)) 0 1 9) 1 9 ((iushr c 16) &&& 255)) 0 1 10) 1 10 ((iushr c 8) &&& 255)) 0 1 11) 1 11 ((iushr c 0) &&& 255)) 0 1 12) 1 12 ((iushr d 24) &&& 255)) 0 1 13) 1 13 ((iushr d 16) &&& 255)) 0 1 14) 1 14 ((iushr d 8) &&& 255)) 0 1 15) 1 15 ((iushr d 0) &&& 255)) 0 1 16) 1 16 ((iushr e 24) &&& 255)) 0 1 17) 1 17 ((iushr e 16) &&& 255)) 0 1 18) 1 18 ((iushr e 8) &&& 255)) gs31 (wI M4 1 18 ((iushr e 8) &&& 255)) := cw_I h4 (by decide)
  generalize (wI M4 1 18 ((iushr e 8) &&& 255)) = M5 at h5 ⊢
  refine a_aload_n dX10_putBytes_33 rfl rfl ?_
  refine a_dup dX10_putBytes_34 rfl ?_
  refine a_get (v := .int 18) dX10_putBytes_35 fl_10_112 (cw_l h5 (by decide)) (cw_s h5 (by decide) rfl) (cw_gi h5 rfl (by decide) (by first | decide +kernel | rfl)) ?_
  refine a_iconst (v := 1) dX10_putBytes_38 (by decide) ?_
  refine a_iadd dX10_putBytes_39 ?_
  refine a_st (st2 := [.int 19, .ref 0]) (by decide +kernel) ?_
  refine a_putI dX10_putBytes_40 (Or.inl ⟨fl_10_112, Or.inl rfl⟩) rfl (cw_l h5 (by decide)) (cw_s h5 (by decide) rfl) rfl rfl ?_
  have h6 : Cw 126 Lj134 (up2 (up2 (up2 (up2 (up2 (up2 (up2 (up2 (up2 (up2 (up2 (up2 (up2 (up2 (up2 (up2 (up2 (up2 (up2 (up2 (up2 (up2 (up2 (up2 (up2 (up2 (up2 (up2 (up2 (up2 (up2 (up2 (up2 (up2 (up2 (up2 (up2 (up2 fs42 1 0 ((iushr a 24) &&& 255)) 0 1 1) 1 1 ((iushr a 16) &&& 255)) 0 1 2) 1 2 ((iushr a 8) &&& 255)) 0 1 3) 1 3 ((iushr a 0) &&& 255)) 0 1 4) 1 4 ((iushr b 24) &&& 255)) 0 1 5) 1 5 ((iushr b 16) &&& 255)) 0 1 6) 1 6 ((iushr b 8) &&& 255)) 0 1 7) 1 7 ((iushr b 0) &&& 255)) 0 1 8) 1 8 ((iushr c 24) &&& 255)) 0 1 9) 1 9 ((iushr c 16) &&& 255)) 0 1 10) 1 10 ((iushr c 8) &&& 255)) 0 1 11) 1 11 ((iushr c 0) &&& 255)) 0 1 12) 1 12 ((iushr d 24) &&& 255)) 0 1 13) 1 13 ((iushr d 16) &&& 255)) 0 1 14) 1 14 ((iushr d 8) &&& 255)) 0 1 15) 1 15 ((iushr d 0) &&& 255)) 0 1 16) 1 16 ((iushr e 24) &&& 255)) 0 1 17) 1 17 ((iushr e 16) &&& 255)) 0 1 18) 1 18 ((iushr e 8) &&& 255)) 0 1 19) gs31 (wI M5 0 1 19) := cw_I h5 (by decide)
  generalize (wI M5 0 1 19) = M6 at h6 ⊢
  refine a_iinc (v := 0) dX10_putBytes_43 rfl (by decide) (Nat.le_of_ble_eq_true rfl) (lv2 := [(2, .int 0), (0, .ref 0), (1, .int e)]) rfl ?_
  refine a_goto 3 dX10_putBytes_46 (by decide) ?_
  refine a_iload_n dX10_putBytes_3 rfl rfl ?_
  refine a_if_lt 49 dX10_putBytes_4 (by decide) (fun c => absurd c (by decide)) (fun _ => ?_)
  refine a_aload_n dX10_putBytes_7 rfl rfl ?_
  refine a_get (v := .int 19) dX10_putBytes_8 fl_10_112 (cw_l h6 (by decide)) (cw_s h6 (by decide) rfl) (cw_gi h6 rfl (by decide) (by first | decide +kernel | rfl)) ?_
  refine a_sipush (v := 600) dX10_putBytes_11 (by decide) ?_
  refine a_icmp_ge 49 dX10_putBytes_14 (by decide) (fun c => absurd c (by decide)) (fun _ => ?_)
  refine a_aload_n dX10_putBytes_17 rfl rfl ?_
  refine a_get (v := .ref 1) dX10_putBytes_18 fl_10_9 (cw_l h6 (by decide)) (cw_s h6 (by decide) rfl) (cw_g h6 rfl (by decide +kernel)) ?_
  refine a_aload_n dX10_putBytes_21 rfl rfl ?_
  refine a_get (v := .int 19) dX10_putBytes_22 fl_10_112 (cw_l h6 (by decide)) (cw_s h6 (by decide) rfl) (cw_gi h6 rfl (by decide) (by first | decide +kernel | rfl)) ?_
  refine a_iload_n dX10_putBytes_25 rfl rfl ?_
  refine a_iload_n dX10_putBytes_26 rfl rfl ?_
  refine a_iushr dX10_putBytes_27 ?_
  refine a_sipush (v := 255) dX10_putBytes_28 (by decide) ?_
  refine a_iand dX10_putBytes_31 ?_
  refine a_iastore dX10_putBytes_32 (cw_l h6 (by decide)) (cw_s h6 (by decide) rfl) (by unfold vp_in; decide +kernel) ?_
  rw [show Int32.toNatClampNeg 19 = 19 from by decide +kernel]
  have h7 : Cw 126 Lj134 (up2 (up2 (up2 (up2 (up2 (up2 (up2 (up2 (up2 (up2 (up2 (up2 (up2 (up2 (up2 (up2 (up2 (up2 (up2 (up2 (up2 (up2 (up2 (up2 (up2 (up2 (up2 (up2 (up2 (up2 (up2 (up2 (up2 (up2 (up2 (up2 (up2 (up2 (up2 fs42 1 0 ((iushr a 24) &&& 255)) 0 1 1) 1 1 ((iushr a 16) &&& 255)) 0 1 2) 1 2 ((iushr a 8) &&& 255)) 0 1 3) 1 3 ((iushr a 0) &&& 255)) 0 1 4) 1 4 ((iushr b 24) &&& 255)) 0 1 5) 1 5 ((iushr b 16) &&& 255)) 0 1 6) 1 6 ((iushr b 8) &&& 255)) 0 1 7) 1 7 ((iushr b 0) &&& 255)) 0 1 8) 1 8 ((iushr c 24) &&& 255)) 0 1 9) 1 9 ((iushr c 16) &&& 255)) 0 1 10) 1 10 ((iushr c 8) &&& 255)) 0 1 11) 1 11 ((iushr c 0) &&& 255)) 0 1 12) 1 12 ((iushr d 24) &&& 255)) 0 1 13) 1 13 ((iushr d 16) &&& 255)) 0 1 14) 1 14 ((iushr d 8) &&& 255)) 0 1 15) 1 15 ((iushr d 0) &&& 255)) 0 1 16) 1 16 ((iushr e 24) &&& 255)) 0 1 17) 1 17 ((iushr e 16) &&& 255)) 0 1 18) 1 18 ((iushr e 8) &&& 255)) 0 1 19) 1 19 ((iushr e 0) &&& 255)) gs31 (wI M6 1 19 ((iushr e 0) &&& 255)) := cw_I h6 (by decide)
  generalize (wI M6 1 19 ((iushr e 0) &&& 255)) = M7 at h7 ⊢
  refine a_aload_n dX10_putBytes_33 rfl rfl ?_
  refine a_dup dX10_putBytes_34 rfl ?_
  refine a_get (v := .int 19) dX10_putBytes_35 fl_10_112 (cw_l h7 (by decide)) (cw_s h7 (by decide) rfl) (cw_gi h7 rfl (by decide) (by first | decide +kernel | rfl)) ?_
  refine a_iconst (v := 1) dX10_putBytes_38 (by decide) ?_
  refine a_iadd dX10_putBytes_39 ?_
  refine a_st (st2 := [.int 20, .ref 0]) (by decide +kernel) ?_
  refine a_putI dX10_putBytes_40 (Or.inl ⟨fl_10_112, Or.inl rfl⟩) rfl (cw_l h7 (by decide)) (cw_s h7 (by decide) rfl) rfl rfl ?_
  have h8 : Cw 126 Lj134 (up2 (up2 (up2 (up2 (up2 (up2 (up2 (up2 (up2 (up2 (up2 (up2 (up2 (up2 (up2 (up2 (up2 (up2 (up2 (up2 (up2 (up2 (up2 (up2 (up2 (up2 (up2 (up2 (up2 (up2 (up2 (up2 (up2 (up2 (up2 (up2 (up2 (up2 (up2 (up2 fs42 1 0 ((iushr a 24) &&& 255)) 0 1 1) 1 1 ((iushr a 16) &&& 255)) 0 1 2) 1 2 ((iushr a 8) &&& 255)) 0 1 3) 1 3 ((iushr a 0) &&& 255)) 0 1 4) 1 4 ((iushr b 24) &&& 255)) 0 1 5) 1 5 ((iushr b 16) &&& 255)) 0 1 6) 1 6 ((iushr b 8) &&& 255)) 0 1 7) 1 7 ((iushr b 0) &&& 255)) 0 1 8) 1 8 ((iushr c 24) &&& 255)) 0 1 9) 1 9 ((iushr c 16) &&& 255)) 0 1 10) 1 10 ((iushr c 8) &&& 255)) 0 1 11) 1 11 ((iushr c 0) &&& 255)) 0 1 12) 1 12 ((iushr d 24) &&& 255)) 0 1 13) 1 13 ((iushr d 16) &&& 255)) 0 1 14) 1 14 ((iushr d 8) &&& 255)) 0 1 15) 1 15 ((iushr d 0) &&& 255)) 0 1 16) 1 16 ((iushr e 24) &&& 255)) 0 1 17) 1 17 ((iushr e 16) &&& 255)) 0 1 18) 1 18 ((iushr e 8) &&& 255)) 0 1 19) 1 19 ((iushr e 0) &&& 255)) 0 1 20) gs31 (wI M7 0 1 20) := cw_I h7 (by decide)
  generalize (wI M7 0 1 20) = M8 at h8 ⊢
  refine a_iinc (v := (-8)) dX10_putBytes_43 rfl (by decide) (Nat.le_of_ble_eq_true rfl) (lv2 := [(2, .int (-8)), (0, .ref 0), (1, .int e)]) rfl ?_
  refine a_goto 3 dX10_putBytes_46 (by decide) ?_
  refine a_iload_n dX10_putBytes_3 rfl rfl ?_
  refine a_if_lt 49 dX10_putBytes_4 (by decide) (fun _ => ?_) (fun c => absurd (by decide) c)
  exact a_vret dX10_putBytes_49 rfl ⟨rfl, h8⟩
set_option maxHeartbeats 4000000 in
set_option maxRecDepth 100000 in
theorem p_feed {X : Nat × (Nat → Int32)} {fr : Nat} {M : Mem} (a : Int32) (b : Int32) (c : Int32) (d : Int32) (e : Int32) (h0 : Cw 126 Lj134 fs42 gs31 M) : AM yX10_feed cX10_feed 6 (some .int) true (fr + 8) 0 0 X [.ref 0, .int a, .int b, .int c, .int d, .int e] M (fun v M1 => v = some (.int 20) ∧ Fm M1) := by
  refine AM.of false (by decide +kernel) (by intro h; cases h) (Nat.le_of_ble_eq_true rfl) ?_
  show AW X (RX10, cX10_feed, 6, (some .int), false, true, fr + 8) 0 0 0 [(0, .ref 0), (1, .int a), (2, .int b), (3, .int c), (4, .int d), (5, .int e)] [] M _
  refine a_aload_n dX10_feed_0 rfl rfl ?_
  refine a_get (v := .int 0) dX10_feed_1 fl_10_112 (cw_l h0 (by decide)) (cw_s h0 (by decide) rfl) (cw_gi h0 rfl (by decide) (by first | decide +kernel | rfl)) ?_
  refine a_bipush (v := 20) dX10_feed_4 (by decide) ?_
  refine a_iadd dX10_feed_6 ?_
  refine a_st (st2 := [.int 20]) (by decide +kernel) ?_
  refine a_sipush (v := 600) dX10_feed_7 (by decide) ?_
  refine a_icmp_le 16 dX10_feed_10 (by decide) (fun _ => ?_) (fun c => absurd (by decide) c)
  refine a_aload_n dX10_feed_16 rfl rfl ?_
  refine a_iload_n dX10_feed_17 rfl rfl ?_
  refine a_callV (As := [.int a]) (st := []) (a := 0) (ci := 10) (bc := 0) (bs := 0) (mc := 0) (ms := 0) false dX10_feed_18 mw_X10_putBytes rfl (Or.inl ⟨rfl, ml_X10_115⟩) im_X10_putBytes se_X10_putBytes (by decide) (cw_l h0 (by decide)) (cw_s h0 (by decide) rfl) rfl (Nat.le_of_ble_eq_true rfl) (z1_X10_putBytes (fr := fr) a b c d e h0) (fun v M1 hq => ?_)
  obtain ⟨rfl, h1⟩ := hq
  refine a_aload_n dX10_feed_21 rfl rfl ?_
  refine a_iload_n dX10_feed_22 rfl rfl ?_
  refine a_callV (As := [.int b]) (st := []) (a := 0) (ci := 10) (bc := 0) (bs := 0) (mc := 0) (ms := 0) false dX10_feed_23 mw_X10_putBytes rfl (Or.inl ⟨rfl, ml_X10_115⟩) im_X10_putBytes se_X10_putBytes (by decide) (cw_l h1 (by decide)) (cw_s h1 (by decide) rfl) rfl (Nat.le_of_ble_eq_true rfl) (z2_X10_putBytes (fr := fr) a b c d e h1) (fun v M2 hq => ?_)
  obtain ⟨rfl, h2⟩ := hq
  refine a_aload_n dX10_feed_26 rfl rfl ?_
  refine a_iload_n dX10_feed_27 rfl rfl ?_
  refine a_callV (As := [.int c]) (st := []) (a := 0) (ci := 10) (bc := 0) (bs := 0) (mc := 0) (ms := 0) false dX10_feed_28 mw_X10_putBytes rfl (Or.inl ⟨rfl, ml_X10_115⟩) im_X10_putBytes se_X10_putBytes (by decide) (cw_l h2 (by decide)) (cw_s h2 (by decide) rfl) rfl (Nat.le_of_ble_eq_true rfl) (z3_X10_putBytes (fr := fr) a b c d e h2) (fun v M3 hq => ?_)
  obtain ⟨rfl, h3⟩ := hq
  refine a_aload_n dX10_feed_31 rfl rfl ?_
  refine a_iload dX10_feed_32 rfl ?_
  refine a_callV (As := [.int d]) (st := []) (a := 0) (ci := 10) (bc := 0) (bs := 0) (mc := 0) (ms := 0) false dX10_feed_34 mw_X10_putBytes rfl (Or.inl ⟨rfl, ml_X10_115⟩) im_X10_putBytes se_X10_putBytes (by decide) (cw_l h3 (by decide)) (cw_s h3 (by decide) rfl) rfl (Nat.le_of_ble_eq_true rfl) (z4_X10_putBytes (fr := fr) a b c d e h3) (fun v M4 hq => ?_)
  obtain ⟨rfl, h4⟩ := hq
  refine a_aload_n dX10_feed_37 rfl rfl ?_
  refine a_iload dX10_feed_38 rfl ?_
  refine a_callV (As := [.int e]) (st := []) (a := 0) (ci := 10) (bc := 0) (bs := 0) (mc := 0) (ms := 0) false dX10_feed_40 mw_X10_putBytes rfl (Or.inl ⟨rfl, ml_X10_115⟩) im_X10_putBytes se_X10_putBytes (by decide) (cw_l h4 (by decide)) (cw_s h4 (by decide) rfl) rfl (Nat.le_of_ble_eq_true rfl) (z5_X10_putBytes (fr := fr) a b c d e h4) (fun v M5 hq => ?_)
  obtain ⟨rfl, h5⟩ := hq
  refine a_aload_n dX10_feed_43 rfl rfl ?_
  refine a_get (v := .int 20) dX10_feed_44 fl_10_112 (cw_l h5 (by decide)) (cw_s h5 (by decide) rfl) (cw_gi h5 rfl (by decide) (by first | decide +kernel | rfl)) ?_
  exact a_iret dX10_feed_47 rfl ⟨by first | rfl | decide +kernel | simp [*], fm_of h5 (fun a k ha => by first | rfl | (repeat rw [up2_a _ _ _ _ (by omega)]))⟩
