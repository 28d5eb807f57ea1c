set_option maxHeartbeats 4000000 in
set_option maxRecDepth 100000 in
theorem b_X11_clears_89_126 {X : Nat × (Nat → Int32)} {fr : Nat} {M : Mem} (h0 : Cw 126 Lj133 fs33 gs31 M) : AM yX11_clears cX11_clears 2 none true (fr + 5) 0 0 X [.ref 89] M (fun v M1 => v = none ∧ Cw 126 Lj133 fs35 gs31 M1) := by
  refine AM.of false (by decide +kernel) (by first | (intro _; rfl) | (intro h; cases h)) (Nat.le_of_ble_eq_true rfl) ?_
  show AW X (RX11, cX11_clears, 2, none, false, true, fr + 5) 0 0 0 [(0, .ref 89)] [] M _
  refine a_aload_n dX11_clears_0 rfl rfl ?_
  refine a_iconst (v := 0) dX11_clears_1 (by decide) ?_
  refine a_putI dX11_clears_2 (Or.inl ⟨fl_11_137, Or.inl rfl⟩) rfl (cw_l h0 (by decide)) (cw_s h0 (by decide) rfl) rfl rfl ?_
  have h1 : Cw 126 Lj133 fs34 gs31 (wI M 89 7 0) := cw_I h0 (by decide)
  generalize (wI M 89 7 0) = M1 at h1 ⊢
  refine a_iconst (v := 0) dX11_clears_5 (by decide) ?_
  refine a_istore_n dX11_clears_6 rfl (Nat.le_of_ble_eq_true rfl) (lv2 := [(1, .int 0), (0, .ref 89)]) rfl ?_
  refine lp_first (L := Lj133) (f := fs34) (g := gs31) (by decide +kernel) (fun M2 h2 => ?_) 1024 0 _ rfl (by rw [fH0]; exact h1)
  exact a_vret dX11_clears_27 rfl ⟨rfl, h2⟩
set_option maxHeartbeats 4000000 in
set_option maxRecDepth 100000 in
theorem b_X11_formula_89_126 {X : Nat × (Nat → Int32)} {fr : Nat} {M : Mem} (h0 : Cw 126 Lj133 fs35 gs31 M) : AM yX11_formula cX11_formula 6 (some .int) true (fr + 5) 0 0 X [.ref 89, .int 0, .int (-1), .int (-1)] M (fun v M1 => v = some (.int 0) ∧ Cw 126 Lj133 fs41 gs31 M1) := by
  refine AM.of false (by decide +kernel) (by first | (intro _; rfl) | (intro h; cases h)) (Nat.le_of_ble_eq_true rfl) ?_
  show AW X (RX11, cX11_formula, 6, (some .int), false, true, fr + 5) 0 0 0 [(0, .ref 89), (1, .int 0), (2, .int (-1)), (3, .int (-1))] [] M _
  refine a_iload_n dX11_formula_0 rfl rfl ?_
  refine a_bipush (v := 31) dX11_formula_1 (by decide) ?_
  refine a_iload_n dX11_formula_3 rfl rfl ?_
  refine a_imul dX11_formula_4 ?_
  refine a_st (st2 := [.int (-31), .int 0]) (by decide) ?_
  refine a_iadd dX11_formula_5 ?_
  refine a_st (st2 := [.int (-31)]) (by decide) ?_
  refine a_sipush (v := 577) dX11_formula_6 (by decide) ?_
  refine a_iload_n dX11_formula_9 rfl rfl ?_
  refine a_imul dX11_formula_10 ?_
  refine a_st (st2 := [.int (-577), .int (-31)]) (by decide) ?_
  refine a_iadd dX11_formula_11 ?_
  refine a_st (st2 := [.int (-608)]) (by decide) ?_
  refine a_sipush (v := 1023) dX11_formula_12 (by decide) ?_
  refine a_iand dX11_formula_15 ?_
  refine a_st (st2 := [.int 416]) (by decide) ?_
  refine a_istore dX11_formula_16 (Nat.le_of_ble_eq_true rfl) (lv2 := [(4, .int 416), (0, .ref 89), (1, .int 0), (2, .int (-1)), (3, .int (-1))]) rfl ?_
  refine a_aload_n dX11_formula_18 rfl rfl ?_
  refine a_get (v := .ref 94) dX11_formula_19 fl_11_26 (cw_l h0 (by decide)) (cw_s h0 (by decide) rfl) (cw_g h0 rfl (by decide +kernel)) ?_
  refine a_iload dX11_formula_22 rfl ?_
  refine a_iaload dX11_formula_24 (cw_l h0 (by decide)) (cw_s h0 (by decide) rfl) (by unfold vp_in; decide +kernel) ?_
  rw [show M.2.2.1 94 (Int32.toNatClampNeg 416) = (-1) from (cw_i h0 (by decide)).trans (by decide +kernel)]
  refine a_istore dX11_formula_25 (Nat.le_of_ble_eq_true rfl) (lv2 := [(5, .int (-1)), (4, .int 416), (0, .ref 89), (1, .int 0), (2, .int (-1)), (3, .int (-1))]) rfl ?_
  refine a_iload dX11_formula_27 rfl ?_
  refine a_iconst (v := (-1)) dX11_formula_29 (by decide) ?_
  refine a_icmp_eq 81 dX11_formula_30 (by decide) (fun _ => ?_) (fun c => absurd c (by decide))
  refine a_aload_n dX11_formula_81 rfl rfl ?_
  refine a_get (v := .ref 90) dX11_formula_82 fl_11_13 (cw_l h0 (by decide)) (cw_s h0 (by decide) rfl) (cw_g h0 rfl (by decide +kernel)) ?_
  refine a_aload_n dX11_formula_85 rfl rfl ?_
  refine a_get (v := .int 0) dX11_formula_86 fl_11_137 (cw_l h0 (by decide)) (cw_s h0 (by decide) rfl) (cw_gi h0 rfl (by decide) (by decide +kernel)) ?_
  refine a_iload_n dX11_formula_89 rfl rfl ?_
  refine a_iastore dX11_formula_90 (cw_l h0 (by decide)) (cw_s h0 (by decide) rfl) (by unfold vp_in; decide +kernel) ?_
  rw [show Int32.toNatClampNeg 0 = 0 from by decide +kernel]
  have h1 : Cw 126 Lj133 fs36 gs31 (wI M 90 0 0) := cw_I h0 (by decide)
  generalize (wI M 90 0 0) = M1 at h1 ⊢
  refine a_aload_n dX11_formula_91 rfl rfl ?_
  refine a_get (v := .ref 91) dX11_formula_92 fl_11_17 (cw_l h1 (by decide)) (cw_s h1 (by decide) rfl) (cw_g h1 rfl (by decide +kernel)) ?_
  refine a_aload_n dX11_formula_95 rfl rfl ?_
  refine a_get (v := .int 0) dX11_formula_96 fl_11_137 (cw_l h1 (by decide)) (cw_s h1 (by decide) rfl) (cw_gi h1 rfl (by decide) (by decide +kernel)) ?_
  refine a_iload_n dX11_formula_99 rfl rfl ?_
  refine a_iastore dX11_formula_100 (cw_l h1 (by decide)) (cw_s h1 (by decide) rfl) (by unfold vp_in; decide +kernel) ?_
  rw [show Int32.toNatClampNeg 0 = 0 from by decide +kernel]
  have h2 : Cw 126 Lj133 fs37 gs31 (wI M1 91 0 (-1)) := cw_I h1 (by decide)
  generalize (wI M1 91 0 (-1)) = M2 at h2 ⊢
  refine a_aload_n dX11_formula_101 rfl rfl ?_
  refine a_get (v := .ref 92) dX11_formula_102 fl_11_20 (cw_l h2 (by decide)) (cw_s h2 (by decide) rfl) (cw_g h2 rfl (by decide +kernel)) ?_
  refine a_aload_n dX11_formula_105 rfl rfl ?_
  refine a_get (v := .int 0) dX11_formula_106 fl_11_137 (cw_l h2 (by decide)) (cw_s h2 (by decide) rfl) (cw_gi h2 rfl (by decide) (by decide +kernel)) ?_
  refine a_iload_n dX11_formula_109 rfl rfl ?_
  refine a_iastore dX11_formula_110 (cw_l h2 (by decide)) (cw_s h2 (by decide) rfl) (by unfold vp_in; decide +kernel) ?_
  rw [show Int32.toNatClampNeg 0 = 0 from by decide +kernel]
  have h3 : Cw 126 Lj133 fs38 gs31 (wI M2 92 0 (-1)) := cw_I h2 (by decide)
  generalize (wI M2 92 0 (-1)) = M3 at h3 ⊢
  refine a_aload_n dX11_formula_111 rfl rfl ?_
  refine a_get (v := .ref 93) dX11_formula_112 fl_11_23 (cw_l h3 (by decide)) (cw_s h3 (by decide) rfl) (cw_g h3 rfl (by decide +kernel)) ?_
  refine a_aload_n dX11_formula_115 rfl rfl ?_
  refine a_get (v := .int 0) dX11_formula_116 fl_11_137 (cw_l h3 (by decide)) (cw_s h3 (by decide) rfl) (cw_gi h3 rfl (by decide) (by decide +kernel)) ?_
  refine a_aload_n dX11_formula_119 rfl rfl ?_
  refine a_get (v := .ref 94) dX11_formula_120 fl_11_26 (cw_l h3 (by decide)) (cw_s h3 (by decide) rfl) (cw_g h3 rfl (by decide +kernel)) ?_
  refine a_iload dX11_formula_123 rfl ?_
  refine a_iaload dX11_formula_125 (cw_l h3 (by decide)) (cw_s h3 (by decide) rfl) (by unfold vp_in; decide +kernel) ?_
  rw [show M3.2.2.1 94 (Int32.toNatClampNeg 416) = (-1) from (cw_i h3 (by decide)).trans (by decide +kernel)]
  refine a_iastore dX11_formula_126 (cw_l h3 (by decide)) (cw_s h3 (by decide) rfl) (by unfold vp_in; decide +kernel) ?_
  rw [show Int32.toNatClampNeg 0 = 0 from by decide +kernel]
  have h4 : Cw 126 Lj133 fs39 gs31 (wI M3 93 0 (-1)) := cw_I h3 (by decide)
  generalize (wI M3 93 0 (-1)) = M4 at h4 ⊢
  refine a_aload_n dX11_formula_127 rfl rfl ?_
  refine a_get (v := .ref 94) dX11_formula_128 fl_11_26 (cw_l h4 (by decide)) (cw_s h4 (by decide) rfl) (cw_g h4 rfl (by decide +kernel)) ?_
  refine a_iload dX11_formula_131 rfl ?_
  refine a_aload_n dX11_formula_133 rfl rfl ?_
  refine a_get (v := .int 0) dX11_formula_134 fl_11_137 (cw_l h4 (by decide)) (cw_s h4 (by decide) rfl) (cw_gi h4 rfl (by decide) (by decide +kernel)) ?_
  refine a_iastore dX11_formula_137 (cw_l h4 (by decide)) (cw_s h4 (by decide) rfl) (by unfold vp_in; decide +kernel) ?_
  rw [show Int32.toNatClampNeg 416 = 416 from by decide +kernel]
  have h5 : Cw 126 Lj133 fs40 gs31 (wI M4 94 416 0) := cw_I h4 (by decide)
  generalize (wI M4 94 416 0) = M5 at h5 ⊢
  refine a_aload_n dX11_formula_138 rfl rfl ?_
  refine a_dup dX11_formula_139 rfl ?_
  refine a_get (v := .int 0) dX11_formula_140 fl_11_137 (cw_l h5 (by decide)) (cw_s h5 (by decide) rfl) (cw_gi h5 rfl (by decide) (by decide +kernel)) ?_
  refine a_iconst (v := 1) dX11_formula_143 (by decide) ?_
  refine a_iadd dX11_formula_144 ?_
  refine a_st (st2 := [.int 1, .ref 89]) (by decide) ?_
  refine a_putI dX11_formula_145 (Or.inl ⟨fl_11_137, Or.inl rfl⟩) rfl (cw_l h5 (by decide)) (cw_s h5 (by decide) rfl) rfl rfl ?_
  have h6 : Cw 126 Lj133 fs41 gs31 (wI M5 89 7 1) := cw_I h5 (by decide)
  generalize (wI M5 89 7 1) = M6 at h6 ⊢
  refine a_aload_n dX11_formula_148 rfl rfl ?_
  refine a_get (v := .int 1) dX11_formula_149 fl_11_137 (cw_l h6 (by decide)) (cw_s h6 (by decide) rfl) (cw_gi h6 rfl (by decide) (by decide +kernel)) ?_
  refine a_iconst (v := 1) dX11_formula_152 (by decide) ?_
  refine a_isub dX11_formula_153 ?_
  refine a_st (st2 := [.int 0]) (by decide) ?_
  exact a_iret dX11_formula_154 rfl ⟨rfl, h6⟩
set_option maxHeartbeats 4000000 in
set_option maxRecDepth 100000 in
theorem b_X11_init_89_90 {X : Nat × (Nat → Int32)} {fr : Nat} {M : Mem} (h0 : Cw 90 Lj97 fs32 gs31 M) : AM yX11_init cX11_init 1 none true (fr + 6) 36 153180 X [.ref 89] M (fun v M1 => v = none ∧ Cw 126 Lj133 fs42 gs31 M1) := by
  refine AM.of true (by decide +kernel) (by first | (intro _; rfl) | (intro h; cases h)) (Nat.le_of_ble_eq_true rfl) ?_
  show AW X (RX11, cX11_init, 1, none, true, true, fr + 6) 36 153180 0 [(0, .ref 89)] [] M _
  refine a_aload_n dX11_init_0 rfl rfl ?_
  refine a_objInit dX11_init_1 oi_X11 oi_i oi_c (Nat.le_add_left 1 (fr + 5)) (Nat.le_of_ble_eq_true rfl) ?_
  refine a_aload_n dX11_init_4 rfl rfl ?_
  refine a_sipush (v := 16384) dX11_init_5 (by decide) ?_
  refine a_newarray (t := 1) (n := 16384) (at_ := .int) (ty := .int) (bc := 35) (bs := 136796) (Or.inr (Or.inl ⟨rfl, rfl, rfl⟩)) dX11_init_8 rfl ay_int (by decide) (by decide) (by decide) (by rw [h0.1]; decide) (by rw [h0.1]; decide) ?_
  rw [h0.1]
  have h1 : Cw 91 Lj97 fs32 gs31 (nA M 1 16384) := cw_nA h0 rfl
  generalize (nA M 1 16384) = M1 at h1 ⊢
  refine a_putR dX11_init_10 (Or.inl ⟨fl_11_13, Or.inr ⟨rfl, rfl, rfl⟩⟩) rfl (cw_l h1 (by decide)) (cw_s h1 (by decide) rfl) ?_
  have h2 : Cw 91 Lj98 fs32 gs31 (wR M1 89 1 (some 90)) := cw_R h1 (by decide) (by decide +kernel)
  generalize (wR M1 89 1 (some 90)) = M2 at h2 ⊢
  refine a_aload_n dX11_init_13 rfl rfl ?_
  refine a_sipush (v := 16384) dX11_init_14 (by decide) ?_
  refine a_newarray (t := 1) (n := 16384) (at_ := .int) (ty := .int) (bc := 34) (bs := 120412) (Or.inr (Or.inl ⟨rfl, rfl, rfl⟩)) dX11_init_17 rfl ay_int (by decide) (by decide) (by decide) (by rw [h2.1]; decide) (by rw [h2.1]; decide) ?_
  rw [h2.1]
  have h3 : Cw 92 Lj98 fs32 gs31 (nA M2 1 16384) := cw_nA h2 rfl
  generalize (nA M2 1 16384) = M3 at h3 ⊢
  refine a_putR dX11_init_19 (Or.inl ⟨fl_11_17, Or.inr ⟨rfl, rfl, rfl⟩⟩) rfl (cw_l h3 (by decide)) (cw_s h3 (by decide) rfl) ?_
  have h4 : Cw 92 Lj99 fs32 gs31 (wR M3 89 2 (some 91)) := cw_R h3 (by decide) (by decide +kernel)
  generalize (wR M3 89 2 (some 91)) = M4 at h4 ⊢
  refine a_aload_n dX11_init_22 rfl rfl ?_
  refine a_sipush (v := 16384) dX11_init_23 (by decide) ?_
  refine a_newarray (t := 1) (n := 16384) (at_ := .int) (ty := .int) (bc := 33) (bs := 104028) (Or.inr (Or.inl ⟨rfl, rfl, rfl⟩)) dX11_init_26 rfl ay_int (by decide) (by decide) (by decide) (by rw [h4.1]; decide) (by rw [h4.1]; decide) ?_
  rw [h4.1]
  have h5 : Cw 93 Lj99 fs32 gs31 (nA M4 1 16384) := cw_nA h4 rfl
  generalize (nA M4 1 16384) = M5 at h5 ⊢
  refine a_putR dX11_init_28 (Or.inl ⟨fl_11_20, Or.inr ⟨rfl, rfl, rfl⟩⟩) rfl (cw_l h5 (by decide)) (cw_s h5 (by decide) rfl) ?_
  have h6 : Cw 93 Lj100 fs32 gs31 (wR M5 89 3 (some 92)) := cw_R h5 (by decide) (by decide +kernel)
  generalize (wR M5 89 3 (some 92)) = M6 at h6 ⊢
  refine a_aload_n dX11_init_31 rfl rfl ?_
  refine a_sipush (v := 16384) dX11_init_32 (by decide) ?_
  refine a_newarray (t := 1) (n := 16384) (at_ := .int) (ty := .int) (bc := 32) (bs := 87644) (Or.inr (Or.inl ⟨rfl, rfl, rfl⟩)) dX11_init_35 rfl ay_int (by decide) (by decide) (by decide) (by rw [h6.1]; decide) (by rw [h6.1]; decide) ?_
  rw [h6.1]
  have h7 : Cw 94 Lj100 fs32 gs31 (nA M6 1 16384) := cw_nA h6 rfl
  generalize (nA M6 1 16384) = M7 at h7 ⊢
  refine a_putR dX11_init_37 (Or.inl ⟨fl_11_23, Or.inr ⟨rfl, rfl, rfl⟩⟩) rfl (cw_l h7 (by decide)) (cw_s h7 (by decide) rfl) ?_
  have h8 : Cw 94 Lj101 fs32 gs31 (wR M7 89 4 (some 93)) := cw_R h7 (by decide) (by decide +kernel)
  generalize (wR M7 89 4 (some 93)) = M8 at h8 ⊢
  refine a_aload_n dX11_init_40 rfl rfl ?_
  refine a_sipush (v := 1024) dX11_init_41 (by decide) ?_
  refine a_newarray (t := 1) (n := 1024) (at_ := .int) (ty := .int) (bc := 31) (bs := 86620) (Or.inr (Or.inl ⟨rfl, rfl, rfl⟩)) dX11_init_44 rfl ay_int (by decide) (by decide) (by decide) (by rw [h8.1]; decide) (by rw [h8.1]; decide) ?_
  rw [h8.1]
  have h9 : Cw 95 Lj101 fs32 gs31 (nA M8 1 1024) := cw_nA h8 rfl
  generalize (nA M8 1 1024) = M9 at h9 ⊢
  refine a_putR dX11_init_46 (Or.inl ⟨fl_11_26, Or.inr ⟨rfl, rfl, rfl⟩⟩) rfl (cw_l h9 (by decide)) (cw_s h9 (by decide) rfl) ?_
  have h10 : Cw 95 Lj102 fs32 gs31 (wR M9 89 5 (some 94)) := cw_R h9 (by decide) (by decide +kernel)
  generalize (wR M9 89 5 (some 94)) = M10 at h10 ⊢
  refine a_aload_n dX11_init_49 rfl rfl ?_
  refine a_sipush (v := 16384) dX11_init_50 (by decide) ?_
  refine a_newarray (t := 1) (n := 16384) (at_ := .int) (ty := .int) (bc := 30) (bs := 70236) (Or.inr (Or.inl ⟨rfl, rfl, rfl⟩)) dX11_init_53 rfl ay_int (by decide) (by decide) (by decide) (by rw [h10.1]; decide) (by rw [h10.1]; decide) ?_
  rw [h10.1]
  have h11 : Cw 96 Lj102 fs32 gs31 (nA M10 1 16384) := cw_nA h10 rfl
  generalize (nA M10 1 16384) = M11 at h11 ⊢
  refine a_putR dX11_init_55 (Or.inl ⟨fl_11_29, Or.inr ⟨rfl, rfl, rfl⟩⟩) rfl (cw_l h11 (by decide)) (cw_s h11 (by decide) rfl) ?_
  have h12 : Cw 96 Lj103 fs32 gs31 (wR M11 89 6 (some 95)) := cw_R h11 (by decide) (by decide +kernel)
  generalize (wR M11 89 6 (some 95)) = M12 at h12 ⊢
  refine a_aload_n dX11_init_58 rfl rfl ?_
  refine a_bipush (v := 24) dX11_init_59 (by decide) ?_
  refine a_newarray (t := 1) (n := 24) (at_ := .int) (ty := .int) (bc := 29) (bs := 70212) (Or.inr (Or.inl ⟨rfl, rfl, rfl⟩)) dX11_init_61 rfl ay_int (by decide) (by decide) (by decide) (by rw [h12.1]; decide) (by rw [h12.1]; decide) ?_
  rw [h12.1]
  have h13 : Cw 97 Lj103 fs32 gs31 (nA M12 1 24) := cw_nA h12 rfl
  generalize (nA M12 1 24) = M13 at h13 ⊢
  refine a_putR dX11_init_63 (Or.inl ⟨fl_11_32, Or.inr ⟨rfl, rfl, rfl⟩⟩) rfl (cw_l h13 (by decide)) (cw_s h13 (by decide) rfl) ?_
  have h14 : Cw 97 Lj104 fs32 gs31 (wR M13 89 9 (some 96)) := cw_R h13 (by decide) (by decide +kernel)
  generalize (wR M13 89 9 (some 96)) = M14 at h14 ⊢
  refine a_aload_n dX11_init_66 rfl rfl ?_
  refine a_bipush (v := 6) dX11_init_67 (by decide) ?_
  refine a_newarray (t := 1) (n := 6) (at_ := .int) (ty := .int) (bc := 28) (bs := 70206) (Or.inr (Or.inl ⟨rfl, rfl, rfl⟩)) dX11_init_69 rfl ay_int (by decide) (by decide) (by decide) (by rw [h14.1]; decide) (by rw [h14.1]; decide) ?_
  rw [h14.1]
  have h15 : Cw 98 Lj104 fs32 gs31 (nA M14 1 6) := cw_nA h14 rfl
  generalize (nA M14 1 6) = M15 at h15 ⊢
  refine a_putR dX11_init_71 (Or.inl ⟨fl_11_35, Or.inr ⟨rfl, rfl, rfl⟩⟩) rfl (cw_l h15 (by decide)) (cw_s h15 (by decide) rfl) ?_
  have h16 : Cw 98 Lj105 fs32 gs31 (wR M15 89 10 (some 97)) := cw_R h15 (by decide) (by decide +kernel)
  generalize (wR M15 89 10 (some 97)) = M16 at h16 ⊢
  refine a_aload_n dX11_init_74 rfl rfl ?_
  refine a_bipush (v := 6) dX11_init_75 (by decide) ?_
  refine a_newarray (t := 1) (n := 6) (at_ := .int) (ty := .int) (bc := 27) (bs := 70200) (Or.inr (Or.inl ⟨rfl, rfl, rfl⟩)) dX11_init_77 rfl ay_int (by decide) (by decide) (by decide) (by rw [h16.1]; decide) (by rw [h16.1]; decide) ?_
  rw [h16.1]
  have h17 : Cw 99 Lj105 fs32 gs31 (nA M16 1 6) := cw_nA h16 rfl
  generalize (nA M16 1 6) = M17 at h17 ⊢
  refine a_putR dX11_init_79 (Or.inl ⟨fl_11_38, Or.inr ⟨rfl, rfl, rfl⟩⟩) rfl (cw_l h17 (by decide)) (cw_s h17 (by decide) rfl) ?_
  have h18 : Cw 99 Lj106 fs32 gs31 (wR M17 89 11 (some 98)) := cw_R h17 (by decide) (by decide +kernel)
  generalize (wR M17 89 11 (some 98)) = M18 at h18 ⊢
  refine a_aload_n dX11_init_82 rfl rfl ?_
  refine a_bipush (v := 24) dX11_init_83 (by decide) ?_
  refine a_newarray (t := 1) (n := 24) (at_ := .int) (ty := .int) (bc := 26) (bs := 70176) (Or.inr (Or.inl ⟨rfl, rfl, rfl⟩)) dX11_init_85 rfl ay_int (by decide) (by decide) (by decide) (by rw [h18.1]; decide) (by rw [h18.1]; decide) ?_
  rw [h18.1]
  have h19 : Cw 100 Lj106 fs32 gs31 (nA M18 1 24) := cw_nA h18 rfl
  generalize (nA M18 1 24) = M19 at h19 ⊢
  refine a_putR dX11_init_87 (Or.inl ⟨fl_11_41, Or.inr ⟨rfl, rfl, rfl⟩⟩) rfl (cw_l h19 (by decide)) (cw_s h19 (by decide) rfl) ?_
  have h20 : Cw 100 Lj107 fs32 gs31 (wR M19 89 12 (some 99)) := cw_R h19 (by decide) (by decide +kernel)
  generalize (wR M19 89 12 (some 99)) = M20 at h20 ⊢
  refine a_aload_n dX11_init_90 rfl rfl ?_
  refine a_bipush (v := 6) dX11_init_91 (by decide) ?_
  refine a_newarray (t := 1) (n := 6) (at_ := .int) (ty := .int) (bc := 25) (bs := 70170) (Or.inr (Or.inl ⟨rfl, rfl, rfl⟩)) dX11_init_93 rfl ay_int (by decide) (by decide) (by decide) (by rw [h20.1]; decide) (by rw [h20.1]; decide) ?_
  rw [h20.1]
  have h21 : Cw 101 Lj107 fs32 gs31 (nA M20 1 6) := cw_nA h20 rfl
  generalize (nA M20 1 6) = M21 at h21 ⊢
  refine a_putR dX11_init_95 (Or.inl ⟨fl_11_44, Or.inr ⟨rfl, rfl, rfl⟩⟩) rfl (cw_l h21 (by decide)) (cw_s h21 (by decide) rfl) ?_
  have h22 : Cw 101 Lj108 fs32 gs31 (wR M21 89 13 (some 100)) := cw_R h21 (by decide) (by decide +kernel)
  generalize (wR M21 89 13 (some 100)) = M22 at h22 ⊢
  refine a_aload_n dX11_init_98 rfl rfl ?_
  refine a_bipush (v := 6) dX11_init_99 (by decide) ?_
  refine a_newarray (t := 1) (n := 6) (at_ := .int) (ty := .int) (bc := 24) (bs := 70164) (Or.inr (Or.inl ⟨rfl, rfl, rfl⟩)) dX11_init_101 rfl ay_int (by decide) (by decide) (by decide) (by rw [h22.1]; decide) (by rw [h22.1]; decide) ?_
  rw [h22.1]
  have h23 : Cw 102 Lj108 fs32 gs31 (nA M22 1 6) := cw_nA h22 rfl
  generalize (nA M22 1 6) = M23 at h23 ⊢
  refine a_putR dX11_init_103 (Or.inl ⟨fl_11_47, Or.inr ⟨rfl, rfl, rfl⟩⟩) rfl (cw_l h23 (by decide)) (cw_s h23 (by decide) rfl) ?_
  have h24 : Cw 102 Lj109 fs32 gs31 (wR M23 89 14 (some 101)) := cw_R h23 (by decide) (by decide +kernel)
  generalize (wR M23 89 14 (some 101)) = M24 at h24 ⊢
  refine a_aload_n dX11_init_106 rfl rfl ?_
  refine a_sipush (v := 800) dX11_init_107 (by decide) ?_
  refine a_newarray (t := 1) (n := 800) (at_ := .int) (ty := .int) (bc := 23) (bs := 69364) (Or.inr (Or.inl ⟨rfl, rfl, rfl⟩)) dX11_init_110 rfl ay_int (by decide) (by decide) (by decide) (by rw [h24.1]; decide) (by rw [h24.1]; decide) ?_
  rw [h24.1]
  have h25 : Cw 103 Lj109 fs32 gs31 (nA M24 1 800) := cw_nA h24 rfl
  generalize (nA M24 1 800) = M25 at h25 ⊢
  refine a_putR dX11_init_112 (Or.inl ⟨fl_11_50, Or.inr ⟨rfl, rfl, rfl⟩⟩) rfl (cw_l h25 (by decide)) (cw_s h25 (by decide) rfl) ?_
  have h26 : Cw 103 Lj110 fs32 gs31 (wR M25 89 17 (some 102)) := cw_R h25 (by decide) (by decide +kernel)
  generalize (wR M25 89 17 (some 102)) = M26 at h26 ⊢
  refine a_aload_n dX11_init_115 rfl rfl ?_
  refine a_sipush (v := 800) dX11_init_116 (by decide) ?_
  refine a_newarray (t := 1) (n := 800) (at_ := .int) (ty := .int) (bc := 22) (bs := 68564) (Or.inr (Or.inl ⟨rfl, rfl, rfl⟩)) dX11_init_119 rfl ay_int (by decide) (by decide) (by decide) (by rw [h26.1]; decide) (by rw [h26.1]; decide) ?_
  rw [h26.1]
  have h27 : Cw 104 Lj110 fs32 gs31 (nA M26 1 800) := cw_nA h26 rfl
  generalize (nA M26 1 800) = M27 at h27 ⊢
  refine a_putR dX11_init_121 (Or.inl ⟨fl_11_53, Or.inr ⟨rfl, rfl, rfl⟩⟩) rfl (cw_l h27 (by decide)) (cw_s h27 (by decide) rfl) ?_
  have h28 : Cw 104 Lj111 fs32 gs31 (wR M27 89 18 (some 103)) := cw_R h27 (by decide) (by decide +kernel)
  generalize (wR M27 89 18 (some 103)) = M28 at h28 ⊢
  refine a_aload_n dX11_init_124 rfl rfl ?_
  refine a_iconst (v := 4) dX11_init_125 (by decide) ?_
  refine a_newarray (t := 1) (n := 4) (at_ := .int) (ty := .int) (bc := 21) (bs := 68560) (Or.inr (Or.inl ⟨rfl, rfl, rfl⟩)) dX11_init_126 rfl ay_int (by decide) (by decide) (by decide) (by rw [h28.1]; decide) (by rw [h28.1]; decide) ?_
  rw [h28.1]
  have h29 : Cw 105 Lj111 fs32 gs31 (nA M28 1 4) := cw_nA h28 rfl
  generalize (nA M28 1 4) = M29 at h29 ⊢
  refine a_putR dX11_init_128 (Or.inl ⟨fl_11_56, Or.inr ⟨rfl, rfl, rfl⟩⟩) rfl (cw_l h29 (by decide)) (cw_s h29 (by decide) rfl) ?_
  have h30 : Cw 105 Lj112 fs32 gs31 (wR M29 89 19 (some 104)) := cw_R h29 (by decide) (by decide +kernel)
  generalize (wR M29 89 19 (some 104)) = M30 at h30 ⊢
  refine a_aload_n dX11_init_131 rfl rfl ?_
  refine a_sipush (v := 400) dX11_init_132 (by decide) ?_
  refine a_newarray (t := 1) (n := 400) (at_ := .int) (ty := .int) (bc := 20) (bs := 68160) (Or.inr (Or.inl ⟨rfl, rfl, rfl⟩)) dX11_init_135 rfl ay_int (by decide) (by decide) (by decide) (by rw [h30.1]; decide) (by rw [h30.1]; decide) ?_
  rw [h30.1]
  have h31 : Cw 106 Lj112 fs32 gs31 (nA M30 1 400) := cw_nA h30 rfl
  generalize (nA M30 1 400) = M31 at h31 ⊢
  refine a_putR dX11_init_137 (Or.inl ⟨fl_11_59, Or.inr ⟨rfl, rfl, rfl⟩⟩) rfl (cw_l h31 (by decide)) (cw_s h31 (by decide) rfl) ?_
  have h32 : Cw 106 Lj113 fs32 gs31 (wR M31 89 20 (some 105)) := cw_R h31 (by decide) (by decide +kernel)
  generalize (wR M31 89 20 (some 105)) = M32 at h32 ⊢
  refine a_aload_n dX11_init_140 rfl rfl ?_
  refine a_sipush (v := 400) dX11_init_141 (by decide) ?_
  refine a_newarray (t := 1) (n := 400) (at_ := .int) (ty := .int) (bc := 19) (bs := 67760) (Or.inr (Or.inl ⟨rfl, rfl, rfl⟩)) dX11_init_144 rfl ay_int (by decide) (by decide) (by decide) (by rw [h32.1]; decide) (by rw [h32.1]; decide) ?_
  rw [h32.1]
  have h33 : Cw 107 Lj113 fs32 gs31 (nA M32 1 400) := cw_nA h32 rfl
  generalize (nA M32 1 400) = M33 at h33 ⊢
  refine a_putR dX11_init_146 (Or.inl ⟨fl_11_62, Or.inr ⟨rfl, rfl, rfl⟩⟩) rfl (cw_l h33 (by decide)) (cw_s h33 (by decide) rfl) ?_
  have h34 : Cw 107 Lj114 fs32 gs31 (wR M33 89 21 (some 106)) := cw_R h33 (by decide) (by decide +kernel)
  generalize (wR M33 89 21 (some 106)) = M34 at h34 ⊢
  refine a_aload_n dX11_init_149 rfl rfl ?_
  refine a_sipush (v := 400) dX11_init_150 (by decide) ?_
  refine a_newarray (t := 1) (n := 400) (at_ := .int) (ty := .int) (bc := 18) (bs := 67360) (Or.inr (Or.inl ⟨rfl, rfl, rfl⟩)) dX11_init_153 rfl ay_int (by decide) (by decide) (by decide) (by rw [h34.1]; decide) (by rw [h34.1]; decide) ?_
  rw [h34.1]
  have h35 : Cw 108 Lj114 fs32 gs31 (nA M34 1 400) := cw_nA h34 rfl
  generalize (nA M34 1 400) = M35 at h35 ⊢
  refine a_putR dX11_init_155 (Or.inl ⟨fl_11_65, Or.inr ⟨rfl, rfl, rfl⟩⟩) rfl (cw_l h35 (by decide)) (cw_s h35 (by decide) rfl) ?_
  have h36 : Cw 108 Lj115 fs32 gs31 (wR M35 89 22 (some 107)) := cw_R h35 (by decide) (by decide +kernel)
  generalize (wR M35 89 22 (some 107)) = M36 at h36 ⊢
  refine a_aload_n dX11_init_158 rfl rfl ?_
  refine a_sipush (v := 400) dX11_init_159 (by decide) ?_
  refine a_newarray (t := 1) (n := 400) (at_ := .int) (ty := .int) (bc := 17) (bs := 66960) (Or.inr (Or.inl ⟨rfl, rfl, rfl⟩)) dX11_init_162 rfl ay_int (by decide) (by decide) (by decide) (by rw [h36.1]; decide) (by rw [h36.1]; decide) ?_
  rw [h36.1]
  have h37 : Cw 109 Lj115 fs32 gs31 (nA M36 1 400) := cw_nA h36 rfl
  generalize (nA M36 1 400) = M37 at h37 ⊢
  refine a_putR dX11_init_164 (Or.inl ⟨fl_11_68, Or.inr ⟨rfl, rfl, rfl⟩⟩) rfl (cw_l h37 (by decide)) (cw_s h37 (by decide) rfl) ?_
  have h38 : Cw 109 Lj116 fs32 gs31 (wR M37 89 23 (some 108)) := cw_R h37 (by decide) (by decide +kernel)
  generalize (wR M37 89 23 (some 108)) = M38 at h38 ⊢
  refine a_aload_n dX11_init_167 rfl rfl ?_
  refine a_sipush (v := 600) dX11_init_168 (by decide) ?_
  refine a_newarray (t := 0) (n := 600) (at_ := .byte) (ty := .byte) (bc := 16) (bs := 66360) (Or.inl ⟨rfl, rfl, rfl⟩) dX11_init_171 rfl ay_byte (by decide) (by decide) (by decide) (by rw [h38.1]; decide) (by rw [h38.1]; decide) ?_
  rw [h38.1]
  have h39 : Cw 110 Lj116 fs32 gs31 (nA M38 0 600) := cw_nA h38 rfl
  generalize (nA M38 0 600) = M39 at h39 ⊢
  refine a_putR dX11_init_173 (Or.inl ⟨fl_11_71, Or.inr ⟨rfl, rfl, rfl⟩⟩) rfl (cw_l h39 (by decide)) (cw_s h39 (by decide) rfl) ?_
  have h40 : Cw 110 Lj117 fs32 gs31 (wR M39 89 26 (some 109)) := cw_R h39 (by decide) (by decide +kernel)
  generalize (wR M39 89 26 (some 109)) = M40 at h40 ⊢
  refine a_aload_n dX11_init_176 rfl rfl ?_
  refine a_iconst (v := (-1)) dX11_init_177 (by decide) ?_
  refine a_putI dX11_init_178 (Or.inl ⟨fl_11_75, Or.inl rfl⟩) rfl (cw_l h40 (by decide)) (cw_s h40 (by decide) rfl) rfl rfl ?_
  have h41 : Cw 110 Lj117 fs33 gs31 (wI M40 89 33 (-1)) := cw_I h40 (by decide)
  generalize (wI M40 89 33 (-1)) = M41 at h41 ⊢
  refine a_aload_n dX11_init_181 rfl rfl ?_
  refine a_sipush (v := 400) dX11_init_182 (by decide) ?_
  refine a_newarray (t := 1) (n := 400) (at_ := .int) (ty := .int) (bc := 15) (bs := 65960) (Or.inr (Or.inl ⟨rfl, rfl, rfl⟩)) dX11_init_185 rfl ay_int (by decide) (by decide) (by decide) (by rw [h41.1]; decide) (by rw [h41.1]; decide) ?_
  rw [h41.1]
  have h42 : Cw 111 Lj117 fs33 gs31 (nA M41 1 400) := cw_nA h41 rfl
  generalize (nA M41 1 400) = M42 at h42 ⊢
  refine a_putR dX11_init_187 (Or.inl ⟨fl_11_78, Or.inr ⟨rfl, rfl, rfl⟩⟩) rfl (cw_l h42 (by decide)) (cw_s h42 (by decide) rfl) ?_
  have h43 : Cw 111 Lj118 fs33 gs31 (wR M42 89 36 (some 110)) := cw_R h42 (by decide) (by decide +kernel)
  generalize (wR M42 89 36 (some 110)) = M43 at h43 ⊢
  refine a_aload_n dX11_init_190 rfl rfl ?_
  refine a_bipush (v := 96) dX11_init_191 (by decide) ?_
  refine a_newarray (t := 1) (n := 96) (at_ := .int) (ty := .int) (bc := 14) (bs := 65864) (Or.inr (Or.inl ⟨rfl, rfl, rfl⟩)) dX11_init_193 rfl ay_int (by decide) (by decide) (by decide) (by rw [h43.1]; decide) (by rw [h43.1]; decide) ?_
  rw [h43.1]
  have h44 : Cw 112 Lj118 fs33 gs31 (nA M43 1 96) := cw_nA h43 rfl
  generalize (nA M43 1 96) = M44 at h44 ⊢
  refine a_putR dX11_init_195 (Or.inl ⟨fl_11_81, Or.inr ⟨rfl, rfl, rfl⟩⟩) rfl (cw_l h44 (by decide)) (cw_s h44 (by decide) rfl) ?_
  have h45 : Cw 112 Lj119 fs33 gs31 (wR M44 89 37 (some 111)) := cw_R h44 (by decide) (by decide +kernel)
  generalize (wR M44 89 37 (some 111)) = M45 at h45 ⊢
  refine a_aload_n dX11_init_198 rfl rfl ?_
  refine a_bipush (v := 24) dX11_init_199 (by decide) ?_
  refine a_newarray (t := 1) (n := 24) (at_ := .int) (ty := .int) (bc := 13) (bs := 65840) (Or.inr (Or.inl ⟨rfl, rfl, rfl⟩)) dX11_init_201 rfl ay_int (by decide) (by decide) (by decide) (by rw [h45.1]; decide) (by rw [h45.1]; decide) ?_
  rw [h45.1]
  have h46 : Cw 113 Lj119 fs33 gs31 (nA M45 1 24) := cw_nA h45 rfl
  generalize (nA M45 1 24) = M46 at h46 ⊢
  refine a_putR dX11_init_203 (Or.inl ⟨fl_11_84, Or.inr ⟨rfl, rfl, rfl⟩⟩) rfl (cw_l h46 (by decide)) (cw_s h46 (by decide) rfl) ?_
  have h47 : Cw 113 Lj120 fs33 gs31 (wR M46 89 38 (some 112)) := cw_R h46 (by decide) (by decide +kernel)
  generalize (wR M46 89 38 (some 112)) = M47 at h47 ⊢
  refine a_aload_n dX11_init_206 rfl rfl ?_
  refine a_sipush (v := 400) dX11_init_207 (by decide) ?_
  refine a_newarray (t := 1) (n := 400) (at_ := .int) (ty := .int) (bc := 12) (bs := 65440) (Or.inr (Or.inl ⟨rfl, rfl, rfl⟩)) dX11_init_210 rfl ay_int (by decide) (by decide) (by decide) (by rw [h47.1]; decide) (by rw [h47.1]; decide) ?_
  rw [h47.1]
  have h48 : Cw 114 Lj120 fs33 gs31 (nA M47 1 400) := cw_nA h47 rfl
  generalize (nA M47 1 400) = M48 at h48 ⊢
  refine a_putR dX11_init_212 (Or.inl ⟨fl_11_87, Or.inr ⟨rfl, rfl, rfl⟩⟩) rfl (cw_l h48 (by decide)) (cw_s h48 (by decide) rfl) ?_
  have h49 : Cw 114 Lj121 fs33 gs31 (wR M48 89 40 (some 113)) := cw_R h48 (by decide) (by decide +kernel)
  generalize (wR M48 89 40 (some 113)) = M49 at h49 ⊢
  refine a_aload_n dX11_init_215 rfl rfl ?_
  refine a_sipush (v := 400) dX11_init_216 (by decide) ?_
  refine a_newarray (t := 1) (n := 400) (at_ := .int) (ty := .int) (bc := 11) (bs := 65040) (Or.inr (Or.inl ⟨rfl, rfl, rfl⟩)) dX11_init_219 rfl ay_int (by decide) (by decide) (by decide) (by rw [h49.1]; decide) (by rw [h49.1]; decide) ?_
  rw [h49.1]
  have h50 : Cw 115 Lj121 fs33 gs31 (nA M49 1 400) := cw_nA h49 rfl
  generalize (nA M49 1 400) = M50 at h50 ⊢
  refine a_putR dX11_init_221 (Or.inl ⟨fl_11_90, Or.inr ⟨rfl, rfl, rfl⟩⟩) rfl (cw_l h50 (by decide)) (cw_s h50 (by decide) rfl) ?_
  have h51 : Cw 115 Lj122 fs33 gs31 (wR M50 89 41 (some 114)) := cw_R h50 (by decide) (by decide +kernel)
  generalize (wR M50 89 41 (some 114)) = M51 at h51 ⊢
  refine a_aload_n dX11_init_224 rfl rfl ?_
  refine a_sipush (v := 400) dX11_init_225 (by decide) ?_
  refine a_newarray (t := 1) (n := 400) (at_ := .int) (ty := .int) (bc := 10) (bs := 64640) (Or.inr (Or.inl ⟨rfl, rfl, rfl⟩)) dX11_init_228 rfl ay_int (by decide) (by decide) (by decide) (by rw [h51.1]; decide) (by rw [h51.1]; decide) ?_
  rw [h51.1]
  have h52 : Cw 116 Lj122 fs33 gs31 (nA M51 1 400) := cw_nA h51 rfl
  generalize (nA M51 1 400) = M52 at h52 ⊢
  refine a_putR dX11_init_230 (Or.inl ⟨fl_11_93, Or.inr ⟨rfl, rfl, rfl⟩⟩) rfl (cw_l h52 (by decide)) (cw_s h52 (by decide) rfl) ?_
  have h53 : Cw 116 Lj123 fs33 gs31 (wR M52 89 42 (some 115)) := cw_R h52 (by decide) (by decide +kernel)
  generalize (wR M52 89 42 (some 115)) = M53 at h53 ⊢
  refine a_aload_n dX11_init_233 rfl rfl ?_
  refine a_bipush (v := 60) dX11_init_234 (by decide) ?_
  refine a_newarray (t := 1) (n := 60) (at_ := .int) (ty := .int) (bc := 9) (bs := 64580) (Or.inr (Or.inl ⟨rfl, rfl, rfl⟩)) dX11_init_236 rfl ay_int (by decide) (by decide) (by decide) (by rw [h53.1]; decide) (by rw [h53.1]; decide) ?_
  rw [h53.1]
  have h54 : Cw 117 Lj123 fs33 gs31 (nA M53 1 60) := cw_nA h53 rfl
  generalize (nA M53 1 60) = M54 at h54 ⊢
  refine a_putR dX11_init_238 (Or.inl ⟨fl_11_96, Or.inr ⟨rfl, rfl, rfl⟩⟩) rfl (cw_l h54 (by decide)) (cw_s h54 (by decide) rfl) ?_
  have h55 : Cw 117 Lj124 fs33 gs31 (wR M54 89 44 (some 116)) := cw_R h54 (by decide) (by decide +kernel)
  generalize (wR M54 89 44 (some 116)) = M55 at h55 ⊢
  refine a_aload_n dX11_init_241 rfl rfl ?_
  refine a_bipush (v := 60) dX11_init_242 (by decide) ?_
  refine a_newarray (t := 1) (n := 60) (at_ := .int) (ty := .int) (bc := 8) (bs := 64520) (Or.inr (Or.inl ⟨rfl, rfl, rfl⟩)) dX11_init_244 rfl ay_int (by decide) (by decide) (by decide) (by rw [h55.1]; decide) (by rw [h55.1]; decide) ?_
  rw [h55.1]
  have h56 : Cw 118 Lj124 fs33 gs31 (nA M55 1 60) := cw_nA h55 rfl
  generalize (nA M55 1 60) = M56 at h56 ⊢
  refine a_putR dX11_init_246 (Or.inl ⟨fl_11_99, Or.inr ⟨rfl, rfl, rfl⟩⟩) rfl (cw_l h56 (by decide)) (cw_s h56 (by decide) rfl) ?_
  have h57 : Cw 118 Lj125 fs33 gs31 (wR M56 89 45 (some 117)) := cw_R h56 (by decide) (by decide +kernel)
  generalize (wR M56 89 45 (some 117)) = M57 at h57 ⊢
  refine a_aload_n dX11_init_249 rfl rfl ?_
  refine a_sipush (v := 620) dX11_init_250 (by decide) ?_
  refine a_newarray (t := 1) (n := 620) (at_ := .int) (ty := .int) (bc := 7) (bs := 63900) (Or.inr (Or.inl ⟨rfl, rfl, rfl⟩)) dX11_init_253 rfl ay_int (by decide) (by decide) (by decide) (by rw [h57.1]; decide) (by rw [h57.1]; decide) ?_
  rw [h57.1]
  have h58 : Cw 119 Lj125 fs33 gs31 (nA M57 1 620) := cw_nA h57 rfl
  generalize (nA M57 1 620) = M58 at h58 ⊢
  refine a_putR dX11_init_255 (Or.inl ⟨fl_11_102, Or.inr ⟨rfl, rfl, rfl⟩⟩) rfl (cw_l h58 (by decide)) (cw_s h58 (by decide) rfl) ?_
  have h59 : Cw 119 Lj126 fs33 gs31 (wR M58 89 51 (some 118)) := cw_R h58 (by decide) (by decide +kernel)
  generalize (wR M58 89 51 (some 118)) = M59 at h59 ⊢
  refine a_aload_n dX11_init_258 rfl rfl ?_
  refine a_sipush (v := 620) dX11_init_259 (by decide) ?_
  refine a_newarray (t := 1) (n := 620) (at_ := .int) (ty := .int) (bc := 6) (bs := 63280) (Or.inr (Or.inl ⟨rfl, rfl, rfl⟩)) dX11_init_262 rfl ay_int (by decide) (by decide) (by decide) (by rw [h59.1]; decide) (by rw [h59.1]; decide) ?_
  rw [h59.1]
  have h60 : Cw 120 Lj126 fs33 gs31 (nA M59 1 620) := cw_nA h59 rfl
  generalize (nA M59 1 620) = M60 at h60 ⊢
  refine a_putR dX11_init_264 (Or.inl ⟨fl_11_105, Or.inr ⟨rfl, rfl, rfl⟩⟩) rfl (cw_l h60 (by decide)) (cw_s h60 (by decide) rfl) ?_
  have h61 : Cw 120 Lj127 fs33 gs31 (wR M60 89 52 (some 119)) := cw_R h60 (by decide) (by decide +kernel)
  generalize (wR M60 89 52 (some 119)) = M61 at h61 ⊢
  refine a_aload_n dX11_init_267 rfl rfl ?_
  refine a_sipush (v := 1860) dX11_init_268 (by decide) ?_
  refine a_newarray (t := 1) (n := 1860) (at_ := .int) (ty := .int) (bc := 5) (bs := 61420) (Or.inr (Or.inl ⟨rfl, rfl, rfl⟩)) dX11_init_271 rfl ay_int (by decide) (by decide) (by decide) (by rw [h61.1]; decide) (by rw [h61.1]; decide) ?_
  rw [h61.1]
  have h62 : Cw 121 Lj127 fs33 gs31 (nA M61 1 1860) := cw_nA h61 rfl
  generalize (nA M61 1 1860) = M62 at h62 ⊢
  refine a_putR dX11_init_273 (Or.inl ⟨fl_11_108, Or.inr ⟨rfl, rfl, rfl⟩⟩) rfl (cw_l h62 (by decide)) (cw_s h62 (by decide) rfl) ?_
  have h63 : Cw 121 Lj128 fs33 gs31 (wR M62 89 53 (some 120)) := cw_R h62 (by decide) (by decide +kernel)
  generalize (wR M62 89 53 (some 120)) = M63 at h63 ⊢
  refine a_aload_n dX11_init_276 rfl rfl ?_
  refine a_sipush (v := 620) dX11_init_277 (by decide) ?_
  refine a_newarray (t := 1) (n := 620) (at_ := .int) (ty := .int) (bc := 4) (bs := 60800) (Or.inr (Or.inl ⟨rfl, rfl, rfl⟩)) dX11_init_280 rfl ay_int (by decide) (by decide) (by decide) (by rw [h63.1]; decide) (by rw [h63.1]; decide) ?_
  rw [h63.1]
  have h64 : Cw 122 Lj128 fs33 gs31 (nA M63 1 620) := cw_nA h63 rfl
  generalize (nA M63 1 620) = M64 at h64 ⊢
  refine a_putR dX11_init_282 (Or.inl ⟨fl_11_111, Or.inr ⟨rfl, rfl, rfl⟩⟩) rfl (cw_l h64 (by decide)) (cw_s h64 (by decide) rfl) ?_
  have h65 : Cw 122 Lj129 fs33 gs31 (wR M64 89 54 (some 121)) := cw_R h64 (by decide) (by decide +kernel)
  generalize (wR M64 89 54 (some 121)) = M65 at h65 ⊢
  refine a_aload_n dX11_init_285 rfl rfl ?_
  refine a_sipush (v := 400) dX11_init_286 (by decide) ?_
  refine a_newarray (t := 1) (n := 400) (at_ := .int) (ty := .int) (bc := 3) (bs := 60400) (Or.inr (Or.inl ⟨rfl, rfl, rfl⟩)) dX11_init_289 rfl ay_int (by decide) (by decide) (by decide) (by rw [h65.1]; decide) (by rw [h65.1]; decide) ?_
  rw [h65.1]
  have h66 : Cw 123 Lj129 fs33 gs31 (nA M65 1 400) := cw_nA h65 rfl
  generalize (nA M65 1 400) = M66 at h66 ⊢
  refine a_putR dX11_init_291 (Or.inl ⟨fl_11_114, Or.inr ⟨rfl, rfl, rfl⟩⟩) rfl (cw_l h66 (by decide)) (cw_s h66 (by decide) rfl) ?_
  have h67 : Cw 123 Lj130 fs33 gs31 (wR M66 89 55 (some 122)) := cw_R h66 (by decide) (by decide +kernel)
  generalize (wR M66 89 55 (some 122)) = M67 at h67 ⊢
  refine a_aload_n dX11_init_294 rfl rfl ?_
  refine a_sipush (v := 200) dX11_init_295 (by decide) ?_
  refine a_newarray (t := 1) (n := 200) (at_ := .int) (ty := .int) (bc := 2) (bs := 60200) (Or.inr (Or.inl ⟨rfl, rfl, rfl⟩)) dX11_init_298 rfl ay_int (by decide) (by decide) (by decide) (by rw [h67.1]; decide) (by rw [h67.1]; decide) ?_
  rw [h67.1]
  have h68 : Cw 124 Lj130 fs33 gs31 (nA M67 1 200) := cw_nA h67 rfl
  generalize (nA M67 1 200) = M68 at h68 ⊢
  refine a_putR dX11_init_300 (Or.inl ⟨fl_11_117, Or.inr ⟨rfl, rfl, rfl⟩⟩) rfl (cw_l h68 (by decide)) (cw_s h68 (by decide) rfl) ?_
  have h69 : Cw 124 Lj131 fs33 gs31 (wR M68 89 57 (some 123)) := cw_R h68 (by decide) (by decide +kernel)
  generalize (wR M68 89 57 (some 123)) = M69 at h69 ⊢
  refine a_aload_n dX11_init_303 rfl rfl ?_
  refine a_sipush (v := 200) dX11_init_304 (by decide) ?_
  refine a_newarray (t := 1) (n := 200) (at_ := .int) (ty := .int) (bc := 1) (bs := 60000) (Or.inr (Or.inl ⟨rfl, rfl, rfl⟩)) dX11_init_307 rfl ay_int (by decide) (by decide) (by decide) (by rw [h69.1]; decide) (by rw [h69.1]; decide) ?_
  rw [h69.1]
  have h70 : Cw 125 Lj131 fs33 gs31 (nA M69 1 200) := cw_nA h69 rfl
  generalize (nA M69 1 200) = M70 at h70 ⊢
  refine a_putR dX11_init_309 (Or.inl ⟨fl_11_120, Or.inr ⟨rfl, rfl, rfl⟩⟩) rfl (cw_l h70 (by decide)) (cw_s h70 (by decide) rfl) ?_
  have h71 : Cw 125 Lj132 fs33 gs31 (wR M70 89 58 (some 124)) := cw_R h70 (by decide) (by decide +kernel)
  generalize (wR M70 89 58 (some 124)) = M71 at h71 ⊢
  refine a_aload_n dX11_init_312 rfl rfl ?_
  refine a_ldc dX11_init_313 co_X11_123 ?_
  refine a_newarray (t := 1) (n := 60000) (at_ := .int) (ty := .int) (bc := 0) (bs := 0) (Or.inr (Or.inl ⟨rfl, rfl, rfl⟩)) dX11_init_315 rfl ay_int (by decide) (by decide) (by decide) (by rw [h71.1]; decide) (by rw [h71.1]; decide) ?_
  rw [h71.1]
  have h72 : Cw 126 Lj132 fs33 gs31 (nA M71 1 60000) := cw_nA h71 rfl
  generalize (nA M71 1 60000) = M72 at h72 ⊢
  refine a_putR dX11_init_317 (Or.inl ⟨fl_11_124, Or.inr ⟨rfl, rfl, rfl⟩⟩) rfl (cw_l h72 (by decide)) (cw_s h72 (by decide) rfl) ?_
  have h73 : Cw 126 Lj133 fs33 gs31 (wR M72 89 60 (some 125)) := cw_R h72 (by decide) (by decide +kernel)
  generalize (wR M72 89 60 (some 125)) = M73 at h73 ⊢
  refine a_aload_n dX11_init_320 rfl rfl ?_
  refine a_callV (As := []) (st := []) (a := 89) (ci := 11) (bc := 0) (bs := 0) (mc := 0) (ms := 0) false dX11_init_321 mw_X11_clears rfl (Or.inl ⟨rfl, ml_X11_127⟩) im_X11_clears se_X11_clears (by decide) (cw_l h73 (by decide)) (cw_s h73 (by decide) rfl) rfl (by decide) (b_X11_clears_89_126 (fr := fr) h73) (fun v M74 hq => ?_)
  obtain ⟨rfl, h74⟩ := hq
  refine a_aload_n dX11_init_324 rfl rfl ?_
  refine a_aload_n dX11_init_325 rfl rfl ?_
  refine a_iconst (v := 0) dX11_init_326 (by decide) ?_
  refine a_iconst (v := (-1)) dX11_init_327 (by decide) ?_
  refine a_iconst (v := (-1)) dX11_init_328 (by decide) ?_
  refine a_callV (As := [.int 0, .int (-1), .int (-1)]) (st := [.ref 89]) (a := 89) (ci := 11) (bc := 0) (bs := 0) (mc := 0) (ms := 0) false dX11_init_329 mw_X11_formula rfl (Or.inl ⟨rfl, ml_X11_130⟩) im_X11_formula se_X11_formula (by decide) (cw_l h74 (by decide)) (cw_s h74 (by decide) rfl) rfl (by decide) (b_X11_formula_89_126 (fr := fr) h74) (fun v M75 hq => ?_)
  obtain ⟨rfl, h75⟩ := hq
  refine a_putI dX11_init_332 (Or.inl ⟨fl_11_134, Or.inl rfl⟩) rfl (cw_l h75 (by decide)) (cw_s h75 (by decide) rfl) rfl rfl ?_
  have h76 : Cw 126 Lj133 fs42 gs31 (wI M75 89 16 0) := cw_I h75 (by decide)
  generalize (wI M75 89 16 0) = M76 at h76 ⊢
  exact a_vret dX11_init_335 rfl ⟨rfl, h76⟩
