/-! METHODS AS FUNCTIONS, written by wip/gen/shallow.py -/
set_option maxHeartbeats 4000000 in
set_option maxRecDepth 100000 in
noncomputable def T_X10_numberLines_0.{u} {α : Sort u} (R : Int32 → Mem → α) (N : α) (n : Nat) (a0 : Nat) (x1 : Int32) (M : Mem) : α := bnd2 (cal n (fun n => f_X10_noSlot n x1 M)) N (fun v1 M2 => if v1 = 0 then gd (fO M2 a0 10) N (bnd (M2.2.2.2.2 a0 5) N (fun r9 => gd (fA M2 r9 4 x1) N (bnd (M2.2.2.2.2 r9 (x1.toNatClampNeg)) N (fun r15 => gd (fO M2 r15 9) N (if (M2.2.2.1 r15 2) = 0 then R (-5) M2 else bnd (M2.2.2.2.2 a0 7) N (fun r20 => bnd (M2.2.2.2.2 r9 (x1.toNatClampNeg)) N (fun r22 => gd (fO M2 r20 3) N (bnd2 (cal n (fun n => f_X3_arrange n r20 r22 M2)) N (fun _ M26 => gd (fO M26 a0 10) N (bnd (M26.2.2.2.2 a0 7) N (fun r32 => gd (fO M26 r32 3) N (bnd2 (cal n (fun n => f_X3_ask n r32 M26)) N (fun v36 M37 => gd (fO M37 a0 10) N (bnd (M37.2.2.2.2 a0 10) N (fun r43 => bnd (M37.2.2.2.2 a0 7) N (fun r45 => gd (fO M37 r43 4) N (bnd2 (cal n (fun n => f_X4_fill n r43 r45 M37)) N (fun _ M49 => R 0 M49)))))))))))))))))) else R (-2) M2)
set_option maxHeartbeats 4000000 in
set_option maxRecDepth 100000 in
theorem n_X10_numberLines_0.{u, v} {α : Sort u} {β : Sort v} (h : α → β) (R : Int32 → Mem → α) (N : α) (n : Nat) (a0 : Nat) (x1 : Int32) (M : Mem) : h (T_X10_numberLines_0 R N n a0 x1 M) = T_X10_numberLines_0 (fun v M => h (R v M)) (h N) n a0 x1 M := by
  simp only [T_X10_numberLines_0, nat_ite h, nat_gd h, nat_bnd h, nat_bnd2 h]
set_option maxHeartbeats 4000000 in
set_option maxRecDepth 100000 in
theorem w_X10_numberLines_0 {X : Nat × (Nat → Int32)} {al : Bool} {n : Nat} {Q : Option Value → Mem → Prop} {R : Int32 → Mem → Prop} (hR : ∀ v M, R v M → Q (some (.int v)) M) {a0 : Nat} {x1 : Int32} {M : Mem} (h : T_X10_numberLines_0 R False n a0 x1 M) : AW X (RX10, cX10_numberLines, 2, (some .int), false, al, n) 0 0 0 [(0, .ref a0), (1, .int x1)] [] M Q := by
  unfold T_X10_numberLines_0 at h
  refine a_iload_n dX10_numberLines_0 rfl rfl ?_
  obtain ⟨v1, M2, e3, h⟩ := bnd2_t h
  obtain ⟨n4, en5, e3⟩ := cal_t e3
  refine e_callS (As := [.int x1]) (st := []) false dX10_numberLines_1 mw_X10_noSlot (Or.inl ⟨rfl, ml_X10_151⟩) sm_X10_noSlot rfl (Nat.le_of_ble_eq_true rfl) en5 (s_X10_noSlot e3) ?_
  refine a_if_eq 10 dX10_numberLines_4 (by decide) (fun c6 => ?_) (fun c6 => ?_)
  · replace h := ite_t c6 h
    refine a_aload_n dX10_numberLines_10 rfl rfl ?_
    obtain ⟨⟨ga7, gs8⟩, h⟩ := gd_t h
    obtain ⟨r9, e10, h⟩ := bnd_t h
    refine a_get (v := .ref r9) dX10_numberLines_11 fl_10_38 ga7 gs8 (gvR e10 rfl) ?_
    refine a_iload_n dX10_numberLines_14 rfl rfl ?_
    obtain ⟨⟨ga11, gn12, gs13, gi14⟩, h⟩ := gd_t h
    obtain ⟨r15, e16, h⟩ := bnd_t h
    refine a_aaload dX10_numberLines_15 ga11 gs13 gi14 e16 ?_
    obtain ⟨⟨ga17, gs18⟩, h⟩ := gd_t h
    refine a_getN (v := .int (M2.2.2.1 r15 2)) dX10_numberLines_16 fn_10_171 ga17 gs18 rfl ?_
    refine a_if_ne 25 dX10_numberLines_19 (by decide) (fun c19 => ?_) (fun c19 => ?_)
    · replace h := ite_f c19 h
      refine a_aload_n dX10_numberLines_25 rfl rfl ?_
      obtain ⟨r20, e21, h⟩ := bnd_t h
      refine a_get (v := .ref r20) dX10_numberLines_26 fl_10_52 ga7 gs8 (gvR e21 rfl) ?_
      refine a_aload_n dX10_numberLines_29 rfl rfl ?_
      refine a_get (v := .ref r9) dX10_numberLines_30 fl_10_38 ga7 gs8 (gvR e10 rfl) ?_
      refine a_iload_n dX10_numberLines_33 rfl rfl ?_
      obtain ⟨r22, e23, h⟩ := bnd_t h
      refine a_aaload dX10_numberLines_34 ga11 gs13 gi14 e23 ?_
      obtain ⟨⟨ga24, gs25⟩, h⟩ := gd_t h
      obtain ⟨_, M26, e27, h⟩ := bnd2_t h
      obtain ⟨n28, en29, e27⟩ := cal_t e27
      refine e_callV (As := [.ref r22]) (st := []) (a := r20) (ci := 3) false dX10_numberLines_35 mw_X3_arrange (Or.inl ⟨rfl, ml_X10_158⟩) im_X3_arrange se_X3_arrange (by decide) ga24 gs25 rfl (Nat.le_of_ble_eq_true rfl) en29 (s_X3_arrange e27) ?_
      refine a_aload_n dX10_numberLines_38 rfl rfl ?_
      obtain ⟨⟨ga30, gs31⟩, h⟩ := gd_t h
      obtain ⟨r32, e33, h⟩ := bnd_t h
      refine a_get (v := .ref r32) dX10_numberLines_39 fl_10_52 ga30 gs31 (gvR e33 rfl) ?_
      obtain ⟨⟨ga34, gs35⟩, h⟩ := gd_t h
      obtain ⟨v36, M37, e38, h⟩ := bnd2_t h
      obtain ⟨n39, en40, e38⟩ := cal_t e38
      refine e_callV (As := []) (st := []) (a := r32) (ci := 3) false dX10_numberLines_42 mw_X3_ask (Or.inl ⟨rfl, ml_X10_162⟩) im_X3_ask se_X3_ask (by decide) ga34 gs35 rfl (Nat.le_of_ble_eq_true rfl) en40 (s_X3_ask e38) ?_
      refine a_pop dX10_numberLines_45 rfl ?_
      refine a_aload_n dX10_numberLines_46 rfl rfl ?_
      obtain ⟨⟨ga41, gs42⟩, h⟩ := gd_t h
      obtain ⟨r43, e44, h⟩ := bnd_t h
      refine a_get (v := .ref r43) dX10_numberLines_47 fl_10_77 ga41 gs42 (gvR e44 rfl) ?_
      refine a_aload_n dX10_numberLines_50 rfl rfl ?_
      obtain ⟨r45, e46, h⟩ := bnd_t h
      refine a_get (v := .ref r45) dX10_numberLines_51 fl_10_52 ga41 gs42 (gvR e46 rfl) ?_
      obtain ⟨⟨ga47, gs48⟩, h⟩ := gd_t h
      obtain ⟨_, M49, e50, h⟩ := bnd2_t h
      obtain ⟨n51, en52, e50⟩ := cal_t e50
      refine e_callV (As := [.ref r45]) (st := []) (a := r43) (ci := 4) false dX10_numberLines_54 mw_X4_fill (Or.inl ⟨rfl, ml_X10_296⟩) im_X4_fill se_X4_fill (by decide) ga47 gs48 rfl (Nat.le_of_ble_eq_true rfl) en52 (s_X4_fill e50) ?_
      refine a_iconst (v := 0) dX10_numberLines_57 (by decide) ?_
      exact a_iret dX10_numberLines_58 rfl (hR _ _ h)
    · replace h := ite_t c19 h
      refine a_bipush (v := -5) dX10_numberLines_22 (by decide) ?_
      exact a_iret dX10_numberLines_24 rfl (hR _ _ h)
  · replace h := ite_f c6 h
    refine a_bipush (v := -2) dX10_numberLines_7 (by decide) ?_
    exact a_iret dX10_numberLines_9 rfl (hR _ _ h)
noncomputable def b_X10_numberLines (n : Nat) (a0 : Nat) (x1 : Int32) (M : Mem) : Option (Int32 × Mem) := T_X10_numberLines_0 (fun v M => some (v, M)) none n a0 x1 M
set_option maxHeartbeats 4000000 in
set_option maxRecDepth 100000 in
theorem sb_X10_numberLines {X : Nat × (Nat → Int32)} {al : Bool} {n : Nat} {a0 : Nat} {x1 : Int32} {M : Mem} {v : Int32} {M1 : Mem} (h : b_X10_numberLines n a0 x1 M = some (v, M1)) : AE yX10_numberLines cX10_numberLines 2 (some .int) al n X [.ref a0, .int x1] M (some (.int v)) M1 := by
  refine AM.of false (by decide +kernel) (by intro h; cases h) (Nat.le_of_ble_eq_true rfl) ?_
  have h2 : T_X10_numberLines_0 (fun v2 M2 => some (v2, M2) = some (v, M1)) (none = some (v, M1)) n a0 x1 M := (n_X10_numberLines_0 (fun o => o = some (v, M1)) (fun v M => some (v, M)) none n a0 x1 M).mp h
  have h3 : ((none : Option (Int32 × Mem)) = some (v, M1)) = False := eq_false (by intro q; cases q)
  rw [h3] at h2
  exact w_X10_numberLines_0 (fun v2 M2 h => by cases h; exact ⟨rfl, rfl⟩) h2

noncomputable abbrev f_X10_numberLines := b_X10_numberLines
theorem s_X10_numberLines {X : Nat × (Nat → Int32)} {al : Bool} {n : Nat} {a0 : Nat} {x1 : Int32} {M : Mem} {v : Int32} {M1 : Mem} (h : f_X10_numberLines n a0 x1 M = some (v, M1)) : AE yX10_numberLines cX10_numberLines 2 (some .int) al n X [.ref a0, .int x1] M (some (.int v)) M1 := sb_X10_numberLines h
set_option maxHeartbeats 4000000 in
set_option maxRecDepth 100000 in
noncomputable def T_X10_lines_0.{u} {α : Sort u} (R : Int32 → Mem → α) (N : α) (n : Nat) (a0 : Nat) (x1 : Int32) (M : Mem) : α := gd (fO M a0 10) N (bnd2 (cal n (fun n => f_X10_numberLines n a0 x1 M)) N (fun v3 M4 => if v3 = 0 then gd (fO M4 a0 10) N (bnd (M4.2.2.2.2 a0 10) N (fun r11 => gd (fO M4 r11 4) N (R (M4.2.2.1 r11 7) M4))) else R v3 M4))
set_option maxHeartbeats 4000000 in
set_option maxRecDepth 100000 in
theorem n_X10_lines_0.{u, v} {α : Sort u} {β : Sort v} (h : α → β) (R : Int32 → Mem → α) (N : α) (n : Nat) (a0 : Nat) (x1 : Int32) (M : Mem) : h (T_X10_lines_0 R N n a0 x1 M) = T_X10_lines_0 (fun v M => h (R v M)) (h N) n a0 x1 M := by
  simp only [T_X10_lines_0, nat_ite h, nat_gd h, nat_bnd h, nat_bnd2 h]
set_option maxHeartbeats 4000000 in
set_option maxRecDepth 100000 in
theorem w_X10_lines_0 {X : Nat × (Nat → Int32)} {al : Bool} {n : Nat} {Q : Option Value → Mem → Prop} {R : Int32 → Mem → Prop} (hR : ∀ v M, R v M → Q (some (.int v)) M) {a0 : Nat} {x1 : Int32} {M : Mem} (h : T_X10_lines_0 R False n a0 x1 M) : AW X (RX10, cX10_lines, 3, (some .int), false, al, n) 0 0 0 [(0, .ref a0), (1, .int x1)] [] M Q := by
  unfold T_X10_lines_0 at h
  refine a_aload_n dX10_lines_0 rfl rfl ?_
  refine a_iload_n dX10_lines_1 rfl rfl ?_
  obtain ⟨⟨ga1, gs2⟩, h⟩ := gd_t h
  obtain ⟨v3, M4, e5, h⟩ := bnd2_t h
  obtain ⟨n6, en7, e5⟩ := cal_t e5
  refine e_callV (As := [.int x1]) (st := []) (a := a0) (ci := 10) false dX10_lines_2 mw_X10_numberLines (Or.inl ⟨rfl, ml_X10_282⟩) im_X10_numberLines se_X10_numberLines (by decide) ga1 gs2 rfl (Nat.le_of_ble_eq_true rfl) en7 (s_X10_numberLines e5) ?_
  refine a_istore_n dX10_lines_5 rfl (Nat.le_of_ble_eq_true rfl) (lv2 := [(2, .int v3), (0, .ref a0), (1, .int x1)]) rfl ?_
  refine a_iload_n dX10_lines_6 rfl rfl ?_
  refine a_if_eq 14 dX10_lines_7 (by decide) (fun c8 => ?_) (fun c8 => ?_)
  · replace h := ite_t c8 h
    refine a_aload_n dX10_lines_14 rfl rfl ?_
    obtain ⟨⟨ga9, gs10⟩, h⟩ := gd_t h
    obtain ⟨r11, e12, h⟩ := bnd_t h
    refine a_get (v := .ref r11) dX10_lines_15 fl_10_77 ga9 gs10 (gvR e12 rfl) ?_
    obtain ⟨⟨ga13, gs14⟩, h⟩ := gd_t h
    refine a_getN (v := .int (M4.2.2.1 r11 7)) dX10_lines_18 fn_10_285 ga13 gs14 rfl ?_
    exact a_iret dX10_lines_21 rfl (hR _ _ h)
  · replace h := ite_f c8 h
    refine a_iload_n dX10_lines_10 rfl rfl ?_
    refine a_goto 21 dX10_lines_11 (by decide) ?_
    exact a_iret dX10_lines_21 rfl (hR _ _ h)
noncomputable def b_X10_lines (n : Nat) (a0 : Nat) (x1 : Int32) (M : Mem) : Option (Int32 × Mem) := T_X10_lines_0 (fun v M => some (v, M)) none n a0 x1 M
set_option maxHeartbeats 4000000 in
set_option maxRecDepth 100000 in
theorem sb_X10_lines {X : Nat × (Nat → Int32)} {al : Bool} {n : Nat} {a0 : Nat} {x1 : Int32} {M : Mem} {v : Int32} {M1 : Mem} (h : b_X10_lines n a0 x1 M = some (v, M1)) : AE yX10_lines cX10_lines 3 (some .int) al n X [.ref a0, .int x1] M (some (.int v)) M1 := by
  refine AM.of false (by decide +kernel) (by intro h; cases h) (Nat.le_of_ble_eq_true rfl) ?_
  have h2 : T_X10_lines_0 (fun v2 M2 => some (v2, M2) = some (v, M1)) (none = some (v, M1)) n a0 x1 M := (n_X10_lines_0 (fun o => o = some (v, M1)) (fun v M => some (v, M)) none n a0 x1 M).mp h
  have h3 : ((none : Option (Int32 × Mem)) = some (v, M1)) = False := eq_false (by intro q; cases q)
  rw [h3] at h2
  exact w_X10_lines_0 (fun v2 M2 h => by cases h; exact ⟨rfl, rfl⟩) h2

noncomputable abbrev f_X10_lines := b_X10_lines
theorem s_X10_lines {X : Nat × (Nat → Int32)} {al : Bool} {n : Nat} {a0 : Nat} {x1 : Int32} {M : Mem} {v : Int32} {M1 : Mem} (h : f_X10_lines n a0 x1 M = some (v, M1)) : AE yX10_lines cX10_lines 3 (some .int) al n X [.ref a0, .int x1] M (some (.int v)) M1 := sb_X10_lines h
def ix_X11_line0 (c : Nat) : List Nat := if c = 0 then [0, 1, 2, 3] else if c = 33 then [0, 4] else []
def PW_X11_line0 (X : Nat × (Nat → Int32)) (al : Bool) (n : Nat) (Q : Option Value → Mem → Prop) (c : Nat) (l : List Value) (M : Mem) : Prop := AW X (RX11, cX11_line0, 5, (some .int), false, al, n) 0 0 c (List.zip (ix_X11_line0 c) l) (l.drop (ix_X11_line0 c).length) M Q
set_option maxHeartbeats 4000000 in
set_option maxRecDepth 100000 in
noncomputable def T_X11_line0_0.{u} {α : Sort u} (J : Nat → List Value → Mem → α) (R : Int32 → Mem → α) (N : α) (n : Nat) (a0 : Nat) (x1 : Int32) (x2 : Int32) (x3 : Int32) (M : Mem) : α := gd (fO M a0 11) N (bnd (M.2.2.2.2 a0 51) N (fun r3 => gd (fA M r3 1 (M.2.2.1 a0 56)) N (bnd (M.2.2.2.2 a0 52) N (fun r9 => gd (fA M r9 1 ((wI M r3 ((M.2.2.1 a0 56).toNatClampNeg) x1).2.2.1 a0 56)) N (bnd (M.2.2.2.2 a0 54) N (fun r15 => gd (fA M r15 1 ((wI (wI M r3 ((M.2.2.1 a0 56).toNatClampNeg) x1) r9 (((wI M r3 ((M.2.2.1 a0 56).toNatClampNeg) x1).2.2.1 a0 56).toNatClampNeg) x2).2.2.1 a0 56)) N (J 33 [.ref a0, .int 0] (wI (wI (wI M r3 ((M.2.2.1 a0 56).toNatClampNeg) x1) r9 (((wI M r3 ((M.2.2.1 a0 56).toNatClampNeg) x1).2.2.1 a0 56).toNatClampNeg) x2) r15 (((wI (wI M r3 ((M.2.2.1 a0 56).toNatClampNeg) x1) r9 (((wI M r3 ((M.2.2.1 a0 56).toNatClampNeg) x1).2.2.1 a0 56).toNatClampNeg) x2).2.2.1 a0 56).toNatClampNeg) x3))))))))
set_option maxHeartbeats 4000000 in
set_option maxRecDepth 100000 in
theorem n_X11_line0_0.{u, v} {α : Sort u} {β : Sort v} (h : α → β) (J : Nat → List Value → Mem → α) (R : Int32 → Mem → α) (N : α) (n : Nat) (a0 : Nat) (x1 : Int32) (x2 : Int32) (x3 : Int32) (M : Mem) : h (T_X11_line0_0 J R N n a0 x1 x2 x3 M) = T_X11_line0_0 (fun c l M => h (J c l M)) (fun v M => h (R v M)) (h N) n a0 x1 x2 x3 M := by
  simp only [T_X11_line0_0, nat_ite h, nat_gd h, nat_bnd h, nat_bnd2 h]
set_option maxHeartbeats 4000000 in
set_option maxRecDepth 100000 in
theorem w_X11_line0_0 {X : Nat × (Nat → Int32)} {al : Bool} {n : Nat} {Q : Option Value → Mem → Prop} {J : Nat → List Value → Mem → Prop} (hJ : ∀ c l M, J c l M → PW_X11_line0 X al n Q c l M) {R : Int32 → Mem → Prop} (hR : ∀ v M, R v M → Q (some (.int v)) M) {a0 : Nat} {x1 : Int32} {x2 : Int32} {x3 : Int32} {M : Mem} (h : T_X11_line0_0 J R False n a0 x1 x2 x3 M) : AW X (RX11, cX11_line0, 5, (some .int), false, al, n) 0 0 0 [(0, .ref a0), (1, .int x1), (2, .int x2), (3, .int x3)] [] M Q := by
  unfold T_X11_line0_0 at h
  refine a_aload_n dX11_line0_0 rfl rfl ?_
  obtain ⟨⟨ga1, gs2⟩, h⟩ := gd_t h
  obtain ⟨r3, e4, h⟩ := bnd_t h
  refine a_get (v := .ref r3) dX11_line0_1 fl_11_102 ga1 gs2 (gvR e4 rfl) ?_
  refine a_aload_n dX11_line0_4 rfl rfl ?_
  refine a_get (v := .int (M.2.2.1 a0 56)) dX11_line0_5 fl_11_414 ga1 gs2 rfl ?_
  refine a_iload_n dX11_line0_8 rfl rfl ?_
  obtain ⟨⟨ga5, gn6, gs7, gi8⟩, h⟩ := gd_t h
  refine a_iastore dX11_line0_9 ga5 gs7 gi8 ?_
  refine a_aload_n dX11_line0_10 rfl rfl ?_
  obtain ⟨r9, e10, h⟩ := bnd_t h
  refine a_get (v := .ref r9) dX11_line0_11 fl_11_105 ga1 gs2 (gvR e10 rfl) ?_
  refine a_aload_n dX11_line0_14 rfl rfl ?_
  refine a_get (v := .int ((wI M r3 ((M.2.2.1 a0 56).toNatClampNeg) x1).2.2.1 a0 56)) dX11_line0_15 fl_11_414 ga1 gs2 rfl ?_
  refine a_iload_n dX11_line0_18 rfl rfl ?_
  obtain ⟨⟨ga11, gn12, gs13, gi14⟩, h⟩ := gd_t h
  refine a_iastore dX11_line0_19 ga11 gs13 gi14 ?_
  refine a_aload_n dX11_line0_20 rfl rfl ?_
  obtain ⟨r15, e16, h⟩ := bnd_t h
  refine a_get (v := .ref r15) dX11_line0_21 fl_11_111 ga1 gs2 (gvR e16 rfl) ?_
  refine a_aload_n dX11_line0_24 rfl rfl ?_
  refine a_get (v := .int ((wI (wI M r3 ((M.2.2.1 a0 56).toNatClampNeg) x1) r9 (((wI M r3 ((M.2.2.1 a0 56).toNatClampNeg) x1).2.2.1 a0 56).toNatClampNeg) x2).2.2.1 a0 56)) dX11_line0_25 fl_11_414 ga1 gs2 rfl ?_
  refine a_iload_n dX11_line0_28 rfl rfl ?_
  obtain ⟨⟨ga17, gn18, gs19, gi20⟩, h⟩ := gd_t h
  refine a_iastore dX11_line0_29 ga17 gs19 gi20 ?_
  refine a_iconst (v := 0) dX11_line0_30 (by decide) ?_
  refine a_istore dX11_line0_31 (Nat.le_of_ble_eq_true rfl) (lv2 := [(4, .int 0), (0, .ref a0), (1, .int x1), (2, .int x2), (3, .int x3)]) rfl ?_
  exact a_lv (lv2 := [(0, .ref a0), (4, .int 0)]) (fa_cons rfl (fa_cons rfl fa_nil)) (hJ _ _ _ h)
set_option maxHeartbeats 4000000 in
set_option maxRecDepth 100000 in
noncomputable def T_X11_line0_33.{u} {α : Sort u} (J : Nat → List Value → Mem → α) (R : Int32 → Mem → α) (N : α) (n : Nat) (a0 : Nat) (x4 : Int32) (M : Mem) : α := if 3 ≤ x4 then gd (fO M a0 11) N (R (((wI M a0 56 ((M.2.2.1 a0 56) + 1)).2.2.1 a0 56) - 1) (wI M a0 56 ((M.2.2.1 a0 56) + 1))) else gd (fO M a0 11) N (bnd (M.2.2.2.2 a0 53) N (fun r6 => gd (fA M r6 1 ((3 * (M.2.2.1 a0 56)) + x4)) N (J 33 [.ref a0, .int (x4 + 1)] (wI M r6 (((3 * (M.2.2.1 a0 56)) + x4).toNatClampNeg) (-1)))))
set_option maxHeartbeats 4000000 in
set_option maxRecDepth 100000 in
theorem n_X11_line0_33.{u, v} {α : Sort u} {β : Sort v} (h : α → β) (J : Nat → List Value → Mem → α) (R : Int32 → Mem → α) (N : α) (n : Nat) (a0 : Nat) (x4 : Int32) (M : Mem) : h (T_X11_line0_33 J R N n a0 x4 M) = T_X11_line0_33 (fun c l M => h (J c l M)) (fun v M => h (R v M)) (h N) n a0 x4 M := by
  simp only [T_X11_line0_33, nat_ite h, nat_gd h, nat_bnd h, nat_bnd2 h]
set_option maxHeartbeats 4000000 in
set_option maxRecDepth 100000 in
theorem w_X11_line0_33 {X : Nat × (Nat → Int32)} {al : Bool} {n : Nat} {Q : Option Value → Mem → Prop} {J : Nat → List Value → Mem → Prop} (hJ : ∀ c l M, J c l M → PW_X11_line0 X al n Q c l M) {R : Int32 → Mem → Prop} (hR : ∀ v M, R v M → Q (some (.int v)) M) {a0 : Nat} {x4 : Int32} {M : Mem} (h : T_X11_line0_33 J R False n a0 x4 M) : AW X (RX11, cX11_line0, 5, (some .int), false, al, n) 0 0 33 [(0, .ref a0), (4, .int x4)] [] M Q := by
  unfold T_X11_line0_33 at h
  refine a_iload dX11_line0_33 rfl ?_
  refine a_iconst (v := 3) dX11_line0_35 (by decide) ?_
  refine a_icmp_ge 60 dX11_line0_36 (by decide) (fun c1 => ?_) (fun c1 => ?_)
  · replace h := ite_t c1 h
    refine a_aload_n dX11_line0_60 rfl rfl ?_
    refine a_dup dX11_line0_61 rfl ?_
    obtain ⟨⟨ga2, gs3⟩, h⟩ := gd_t h
    refine a_get (v := .int (M.2.2.1 a0 56)) dX11_line0_62 fl_11_414 ga2 gs3 rfl ?_
    refine a_iconst (v := 1) dX11_line0_65 (by decide) ?_
    refine a_iadd dX11_line0_66 ?_
    refine a_putI dX11_line0_67 (Or.inl ⟨fl_11_414, Or.inl rfl⟩) rfl ga2 gs3 rfl rfl ?_
    refine a_aload_n dX11_line0_70 rfl rfl ?_
    refine a_get (v := .int ((wI M a0 56 ((M.2.2.1 a0 56) + 1)).2.2.1 a0 56)) dX11_line0_71 fl_11_414 ga2 gs3 rfl ?_
    refine a_iconst (v := 1) dX11_line0_74 (by decide) ?_
    refine a_isub dX11_line0_75 ?_
    exact a_iret dX11_line0_76 rfl (hR _ _ h)
  · replace h := ite_f c1 h
    refine a_aload_n dX11_line0_39 rfl rfl ?_
    obtain ⟨⟨ga4, gs5⟩, h⟩ := gd_t h
    obtain ⟨r6, e7, h⟩ := bnd_t h
    refine a_get (v := .ref r6) dX11_line0_40 fl_11_108 ga4 gs5 (gvR e7 rfl) ?_
    refine a_iconst (v := 3) dX11_line0_43 (by decide) ?_
    refine a_aload_n dX11_line0_44 rfl rfl ?_
    refine a_get (v := .int (M.2.2.1 a0 56)) dX11_line0_45 fl_11_414 ga4 gs5 rfl ?_
    refine a_imul dX11_line0_48 ?_
    refine a_iload dX11_line0_49 rfl ?_
    refine a_iadd dX11_line0_51 ?_
    refine a_iconst (v := -1) dX11_line0_52 (by decide) ?_
    obtain ⟨⟨ga8, gn9, gs10, gi11⟩, h⟩ := gd_t h
    refine a_iastore dX11_line0_53 ga8 gs10 gi11 ?_
    refine a_iinc (v := (x4 + 1)) dX11_line0_54 rfl (by first | rfl | decide) (Nat.le_of_ble_eq_true rfl) (lv2 := [(4, .int (x4 + 1)), (0, .ref a0)]) rfl ?_
    refine a_goto 33 dX11_line0_57 (by decide) ?_
    exact a_lv (lv2 := [(0, .ref a0), (4, .int (x4 + 1))]) (fa_cons rfl (fa_cons rfl fa_nil)) (hJ _ _ _ h)
set_option maxHeartbeats 4000000 in
set_option maxRecDepth 100000 in
noncomputable def st_X11_line0 (n : Nat) (s : Sg) : Option (Sg ⊕ (Int32 × Mem)) := if s.1 = 0 then vR s.2.1 none (fun a0 t => vI t none (fun x1 t => vI t none (fun x2 t => vI t none (fun x3 t => vE t none (T_X11_line0_0 (fun c l M => some (.inl (c, l, M))) (fun v M => some (.inr (v, M))) none n a0 x1 x2 x3 s.2.2))))) else if s.1 = 33 then vR s.2.1 none (fun a0 t => vI t none (fun x4 t => vE t none (T_X11_line0_33 (fun c l M => some (.inl (c, l, M))) (fun v M => some (.inr (v, M))) none n a0 x4 s.2.2))) else none
noncomputable abbrev g_X11_line0_0 (n : Nat) (a0 : Nat) (x1 : Int32) (x2 : Int32) (x3 : Int32) (M : Mem) : Option (Int32 × Mem) := lp (st_X11_line0 n) (0, [.ref a0, .int x1, .int x2, .int x3], M)
set_option maxHeartbeats 4000000 in
set_option maxRecDepth 100000 in
theorem ge_X11_line0_0 (n : Nat) (a0 : Nat) (x1 : Int32) (x2 : Int32) (x3 : Int32) (M : Mem) : g_X11_line0_0 n a0 x1 x2 x3 M = T_X11_line0_0 (fun c l M => lp (st_X11_line0 n) (c, l, M)) (fun v M => some (v, M)) none n a0 x1 x2 x3 M := (lp_eq _ _).trans (n_X11_line0_0 (lpK (st_X11_line0 n)) (fun c l M => some (.inl (c, l, M))) (fun v M => some (.inr (v, M))) none n a0 x1 x2 x3 M)
noncomputable abbrev g_X11_line0_33 (n : Nat) (a0 : Nat) (x4 : Int32) (M : Mem) : Option (Int32 × Mem) := lp (st_X11_line0 n) (33, [.ref a0, .int x4], M)
set_option maxHeartbeats 4000000 in
set_option maxRecDepth 100000 in
theorem ge_X11_line0_33 (n : Nat) (a0 : Nat) (x4 : Int32) (M : Mem) : g_X11_line0_33 n a0 x4 M = T_X11_line0_33 (fun c l M => lp (st_X11_line0 n) (c, l, M)) (fun v M => some (v, M)) none n a0 x4 M := (lp_eq _ _).trans (n_X11_line0_33 (lpK (st_X11_line0 n)) (fun c l M => some (.inl (c, l, M))) (fun v M => some (.inr (v, M))) none n a0 x4 M)
noncomputable def b_X11_line0 (n : Nat) (a0 : Nat) (x1 : Int32) (x2 : Int32) (x3 : Int32) (M : Mem) : Option (Int32 × Mem) := g_X11_line0_0 n a0 x1 x2 x3 M
set_option maxHeartbeats 4000000 in
set_option maxRecDepth 100000 in
theorem sb_X11_line0 {X : Nat × (Nat → Int32)} {al : Bool} {n : Nat} {a0 : Nat} {x1 : Int32} {x2 : Int32} {x3 : Int32} {M : Mem} {v : Int32} {M1 : Mem} (h : b_X11_line0 n a0 x1 x2 x3 M = some (v, M1)) : AE yX11_line0 cX11_line0 5 (some .int) al n X [.ref a0, .int x1, .int x2, .int x3] M (some (.int v)) M1 := by
  refine AM.of false (by decide +kernel) (by intro h; cases h) (Nat.le_of_ble_eq_true rfl) ?_
  refine lp_snd (P := fun s r => PW_X11_line0 X al n (fun v M2 => v = (some (.int r.1)) ∧ M2 = r.2) s.1 s.2.1 s.2.2) ?_ h
  clear h
  rintro ⟨c, l, M⟩ r h
  unfold st_X11_line0 at h
  rcases ite_p h with ⟨e, h⟩ | ⟨e, h⟩
  · replace e : c = 0 := e
    subst e
    obtain ⟨a0, tt0, e, h⟩ := vR_p id h
    replace e : l = _ := e
    subst e
    obtain ⟨x1, tt1, e, h⟩ := vI_p id h
    replace e : tt0 = _ := e
    subst e
    obtain ⟨x2, tt2, e, h⟩ := vI_p id h
    replace e : tt1 = _ := e
    subst e
    obtain ⟨x3, tt3, e, h⟩ := vI_p id h
    replace e : tt2 = _ := e
    subst e
    obtain ⟨e, h⟩ := vE_p id h
    replace e : tt3 = [] := e
    subst e
    exact w_X11_line0_0 (J := fun c l M => PW_X11_line0 X al n (fun v M2 => v = (some (.int r.1)) ∧ M2 = r.2) c l M) (R := fun v M => (v, M) = r) (fun _ _ _ h => h) (fun v M h => by cases h; exact ⟨rfl, rfl⟩) ((n_X11_line0_0 (lpP (fun (s : Sg) (r : Int32 × Mem) => PW_X11_line0 X al n (fun v M2 => v = (some (.int r.1)) ∧ M2 = r.2) s.1 s.2.1 s.2.2) r) (fun c l M => some (.inl (c, l, M))) (fun v M => some (.inr (v, M))) none n a0 x1 x2 x3 M).mp h)
  rcases ite_p h with ⟨e, h⟩ | ⟨e, h⟩
  · replace e : c = 33 := e
    subst e
    obtain ⟨a0, tt0, e, h⟩ := vR_p id h
    replace e : l = _ := e
    subst e
    obtain ⟨x4, tt1, e, h⟩ := vI_p id h
    replace e : tt0 = _ := e
    subst e
    obtain ⟨e, h⟩ := vE_p id h
    replace e : tt1 = [] := e
    subst e
    exact w_X11_line0_33 (J := fun c l M => PW_X11_line0 X al n (fun v M2 => v = (some (.int r.1)) ∧ M2 = r.2) c l M) (R := fun v M => (v, M) = r) (fun _ _ _ h => h) (fun v M h => by cases h; exact ⟨rfl, rfl⟩) ((n_X11_line0_33 (lpP (fun (s : Sg) (r : Int32 × Mem) => PW_X11_line0 X al n (fun v M2 => v = (some (.int r.1)) ∧ M2 = r.2) s.1 s.2.1 s.2.2) r) (fun c l M => some (.inl (c, l, M))) (fun v M => some (.inr (v, M))) none n a0 x4 M).mp h)
  · exact h.elim

noncomputable abbrev f_X11_line0 := b_X11_line0
theorem s_X11_line0 {X : Nat × (Nat → Int32)} {al : Bool} {n : Nat} {a0 : Nat} {x1 : Int32} {x2 : Int32} {x3 : Int32} {M : Mem} {v : Int32} {M1 : Mem} (h : f_X11_line0 n a0 x1 x2 x3 M = some (v, M1)) : AE yX11_line0 cX11_line0 5 (some .int) al n X [.ref a0, .int x1, .int x2, .int x3] M (some (.int v)) M1 := sb_X11_line0 h
def ix_X11_linesFrom (c : Nat) : List Nat := if c = 0 then [0, 1] else if c = 144 then [0, 1, 2, 3, 4, 5, 6, 7] else if c = 210 then [0, 1, 2, 3, 4, 5, 6] else []
def PW_X11_linesFrom (X : Nat × (Nat → Int32)) (al : Bool) (n : Nat) (Q : Option Value → Mem → Prop) (c : Nat) (l : List Value) (M : Mem) : Prop := AW X (RX11, cX11_linesFrom, 8, (some .int), false, al, n) 0 0 c (List.zip (ix_X11_linesFrom c) l) (l.drop (ix_X11_linesFrom c).length) M Q
set_option maxHeartbeats 4000000 in
set_option maxRecDepth 100000 in
noncomputable def T_X11_linesFrom_0.{u} {α : Sort u} (J : Nat → List Value → Mem → α) (R : Int32 → Mem → α) (N : α) (cl : Nat → List Value → Mem → Option (Int32 × Mem)) (n : Nat) (a0 : Nat) (x1 : Int32) (M : Mem) : α := gd (fO M a0 11) N (bnd (M.2.2.2.2 a0 20) N (fun r3 => gd (fA M r3 1 (M.2.2.1 a0 43)) N (if ((wI M a0 43 ((M.2.2.1 a0 43) + 1)).2.2.1 r3 ((M.2.2.1 a0 43).toNatClampNeg)) = 0 then bnd (M.2.2.2.2 a0 21) N (fun r68 => gd (fA M r68 1 (M.2.2.1 a0 43)) N (if 0 ≤ ((wI M a0 43 ((M.2.2.1 a0 43) + 1)).2.2.1 r68 ((M.2.2.1 a0 43).toNatClampNeg)) then bnd (M.2.2.2.2 a0 55) N (fun r75 => gd (fA M r75 1 ((wI M a0 43 ((M.2.2.1 a0 43) + 1)).2.2.1 r68 ((M.2.2.1 a0 43).toNatClampNeg))) N (R ((wI M a0 43 ((M.2.2.1 a0 43) + 1)).2.2.1 r75 (((wI M a0 43 ((M.2.2.1 a0 43) + 1)).2.2.1 r68 ((M.2.2.1 a0 43).toNatClampNeg)).toNatClampNeg)) (wI M a0 43 ((M.2.2.1 a0 43) + 1)))) else R ((-1) - ((wI M a0 43 ((M.2.2.1 a0 43) + 1)).2.2.1 r68 ((M.2.2.1 a0 43).toNatClampNeg))) (wI M a0 43 ((M.2.2.1 a0 43) + 1)))) else if ((wI M a0 43 ((M.2.2.1 a0 43) + 1)).2.2.1 r3 ((M.2.2.1 a0 43).toNatClampNeg)) = 1 then bnd (M.2.2.2.2 a0 55) N (fun r38 => bnd (M.2.2.2.2 a0 21) N (fun r40 => gd (fA M r40 1 (M.2.2.1 a0 43)) N (bnd2 (cal n (fun n => f_X11_line0 n a0 1 ((wI M a0 43 ((M.2.2.1 a0 43) + 1)).2.2.1 r40 ((M.2.2.1 a0 43).toNatClampNeg)) (x1 + 1) (wI M a0 43 ((M.2.2.1 a0 43) + 1)))) N (fun v46 M47 => gd (fA M47 r38 1 x1) N (gd (fO M47 a0 11) N (bnd (M47.2.2.2.2 a0 55) N (fun r57 => gd (fA M47 r57 1 x1) N (bnd2 (cl 0 [.ref a0, .int (x1 + 1)] (wI M47 r38 (x1.toNatClampNeg) v46)) N (fun v63 M64 => J 210 [.ref a0, .int x1, .int (M.2.2.1 a0 43), .int ((wI M a0 43 ((M.2.2.1 a0 43) + 1)).2.2.1 r3 ((M.2.2.1 a0 43).toNatClampNeg)), .int ((wI M47 r38 (x1.toNatClampNeg) v46).2.2.1 r57 (x1.toNatClampNeg)), .int v63, .int (-1)] M64))))))))) else bnd (M.2.2.2.2 a0 40) N (fun r11 => gd (fA M r11 1 ((wI M a0 43 ((M.2.2.1 a0 43) + 1)).2.2.1 a0 43)) N (bnd2 (cl 0 [.ref a0, .int x1] (wI M a0 43 ((M.2.2.1 a0 43) + 1))) N (fun v17 M18 => if ((wI M a0 43 ((M.2.2.1 a0 43) + 1)).2.2.1 r3 ((M.2.2.1 a0 43).toNatClampNeg)) = 2 then gd (fO M18 a0 11) N (bnd2 (cl 0 [.ref a0, .int x1] M18) N (fun v25 M26 => J 144 [.ref a0, .int x1, .int (M.2.2.1 a0 43), .int ((wI M a0 43 ((M.2.2.1 a0 43) + 1)).2.2.1 r3 ((M.2.2.1 a0 43).toNatClampNeg)), .int v17, .int v25, .int (-1), .int ((wI M a0 43 ((M.2.2.1 a0 43) + 1)).2.2.1 r11 (((wI M a0 43 ((M.2.2.1 a0 43) + 1)).2.2.1 a0 43).toNatClampNeg))] M26)) else if ((wI M a0 43 ((M.2.2.1 a0 43) + 1)).2.2.1 r3 ((M.2.2.1 a0 43).toNatClampNeg)) = 3 then gd (fO M18 a0 11) N (bnd2 (cl 0 [.ref a0, .int x1] M18) N (fun v33 M34 => J 144 [.ref a0, .int x1, .int (M.2.2.1 a0 43), .int ((wI M a0 43 ((M.2.2.1 a0 43) + 1)).2.2.1 r3 ((M.2.2.1 a0 43).toNatClampNeg)), .int v17, .int v33, .int (-1), .int ((wI M a0 43 ((M.2.2.1 a0 43) + 1)).2.2.1 r11 (((wI M a0 43 ((M.2.2.1 a0 43) + 1)).2.2.1 a0 43).toNatClampNeg))] M34)) else J 144 [.ref a0, .int x1, .int (M.2.2.1 a0 43), .int ((wI M a0 43 ((M.2.2.1 a0 43) + 1)).2.2.1 r3 ((M.2.2.1 a0 43).toNatClampNeg)), .int v17, .int (-1), .int (-1), .int ((wI M a0 43 ((M.2.2.1 a0 43) + 1)).2.2.1 r11 (((wI M a0 43 ((M.2.2.1 a0 43) + 1)).2.2.1 a0 43).toNatClampNeg))] M18))))))
set_option maxHeartbeats 4000000 in
set_option maxRecDepth 100000 in
theorem n_X11_linesFrom_0.{u, v} {α : Sort u} {β : Sort v} (h : α → β) (J : Nat → List Value → Mem → α) (R : Int32 → Mem → α) (N : α) (cl : Nat → List Value → Mem → Option (Int32 × Mem)) (n : Nat) (a0 : Nat) (x1 : Int32) (M : Mem) : h (T_X11_linesFrom_0 J R N cl n a0 x1 M) = T_X11_linesFrom_0 (fun c l M => h (J c l M)) (fun v M => h (R v M)) (h N) cl n a0 x1 M := by
  simp only [T_X11_linesFrom_0, nat_ite h, nat_gd h, nat_bnd h, nat_bnd2 h]
set_option maxHeartbeats 4000000 in
set_option maxRecDepth 100000 in
theorem w_X11_linesFrom_0 {X : Nat × (Nat → Int32)} {al : Bool} {n : Nat} {Q : Option Value → Mem → Prop} {J : Nat → List Value → Mem → Prop} (hJ : ∀ c l M, J c l M → PW_X11_linesFrom X al n Q c l M) {R : Int32 → Mem → Prop} (hR : ∀ v M, R v M → Q (some (.int v)) M) {cl : Nat → List Value → Mem → Option (Int32 × Mem)} (hc_X11_linesFrom : ∀ {a0 : Nat} {x1 : Int32} {M : Mem} {v : Int32} {M1 : Mem}, cl 0 [.ref a0, .int x1] M = some (v, M1) → ∃ k, n = k + 1 ∧ AE yX11_linesFrom cX11_linesFrom 8 (some .int) al k X [.ref a0, .int x1] M (some (.int v)) M1) {a0 : Nat} {x1 : Int32} {M : Mem} (h : T_X11_linesFrom_0 J R False cl n a0 x1 M) : AW X (RX11, cX11_linesFrom, 8, (some .int), false, al, n) 0 0 0 [(0, .ref a0), (1, .int x1)] [] M Q := by
  unfold T_X11_linesFrom_0 at h
  refine a_aload_n dX11_linesFrom_0 rfl rfl ?_
  obtain ⟨⟨ga1, gs2⟩, h⟩ := gd_t h
  refine a_get (v := .int (M.2.2.1 a0 43)) dX11_linesFrom_1 fl_11_283 ga1 gs2 rfl ?_
  refine a_istore_n dX11_linesFrom_4 rfl (Nat.le_of_ble_eq_true rfl) (lv2 := [(2, .int (M.2.2.1 a0 43)), (0, .ref a0), (1, .int x1)]) rfl ?_
  refine a_aload_n dX11_linesFrom_5 rfl rfl ?_
  refine a_dup dX11_linesFrom_6 rfl ?_
  refine a_get (v := .int (M.2.2.1 a0 43)) dX11_linesFrom_7 fl_11_283 ga1 gs2 rfl ?_
  refine a_iconst (v := 1) dX11_linesFrom_10 (by decide) ?_
  refine a_iadd dX11_linesFrom_11 ?_
  refine a_putI dX11_linesFrom_12 (Or.inl ⟨fl_11_283, Or.inl rfl⟩) rfl ga1 gs2 rfl rfl ?_
  refine a_aload_n dX11_linesFrom_15 rfl rfl ?_
  obtain ⟨r3, e4, h⟩ := bnd_t h
  refine a_get (v := .ref r3) dX11_linesFrom_16 fl_11_59 ga1 gs2 (gvR e4 rfl) ?_
  refine a_iload_n dX11_linesFrom_19 rfl rfl ?_
  obtain ⟨⟨ga5, gn6, gs7, gi8⟩, h⟩ := gd_t h
  refine a_iaload dX11_linesFrom_20 ga5 gs7 gi8 ?_
  refine a_istore_n dX11_linesFrom_21 rfl (Nat.le_of_ble_eq_true rfl) (lv2 := [(3, .int ((wI M a0 43 ((M.2.2.1 a0 43) + 1)).2.2.1 r3 ((M.2.2.1 a0 43).toNatClampNeg))), (2, .int (M.2.2.1 a0 43)), (0, .ref a0), (1, .int x1)]) rfl ?_
  refine a_iload_n dX11_linesFrom_22 rfl rfl ?_
  refine a_if_ne 58 dX11_linesFrom_23 (by decide) (fun c9 => ?_) (fun c9 => ?_)
  · replace h := ite_f c9 h
    refine a_iconst (v := -1) dX11_linesFrom_58 (by decide) ?_
    refine a_istore dX11_linesFrom_59 (Nat.le_of_ble_eq_true rfl) (lv2 := [(5, .int (-1)), (3, .int ((wI M a0 43 ((M.2.2.1 a0 43) + 1)).2.2.1 r3 ((M.2.2.1 a0 43).toNatClampNeg))), (2, .int (M.2.2.1 a0 43)), (0, .ref a0), (1, .int x1)]) rfl ?_
    refine a_iconst (v := -1) dX11_linesFrom_61 (by decide) ?_
    refine a_istore dX11_linesFrom_62 (Nat.le_of_ble_eq_true rfl) (lv2 := [(6, .int (-1)), (5, .int (-1)), (3, .int ((wI M a0 43 ((M.2.2.1 a0 43) + 1)).2.2.1 r3 ((M.2.2.1 a0 43).toNatClampNeg))), (2, .int (M.2.2.1 a0 43)), (0, .ref a0), (1, .int x1)]) rfl ?_
    refine a_iload_n dX11_linesFrom_64 rfl rfl ?_
    refine a_iconst (v := 1) dX11_linesFrom_65 (by decide) ?_
    refine a_icmp_ne 109 dX11_linesFrom_66 (by decide) (fun c10 => ?_) (fun c10 => ?_)
    · replace h := ite_f c10 h
      refine a_aload_n dX11_linesFrom_109 rfl rfl ?_
      obtain ⟨r11, e12, h⟩ := bnd_t h
      refine a_get (v := .ref r11) dX11_linesFrom_110 fl_11_87 ga1 gs2 (gvR e12 rfl) ?_
      refine a_aload_n dX11_linesFrom_113 rfl rfl ?_
      refine a_get (v := .int ((wI M a0 43 ((M.2.2.1 a0 43) + 1)).2.2.1 a0 43)) dX11_linesFrom_114 fl_11_283 ga1 gs2 rfl ?_
      obtain ⟨⟨ga13, gn14, gs15, gi16⟩, h⟩ := gd_t h
      refine a_iaload dX11_linesFrom_117 ga13 gs15 gi16 ?_
      refine a_istore dX11_linesFrom_118 (Nat.le_of_ble_eq_true rfl) (lv2 := [(7, .int ((wI M a0 43 ((M.2.2.1 a0 43) + 1)).2.2.1 r11 (((wI M a0 43 ((M.2.2.1 a0 43) + 1)).2.2.1 a0 43).toNatClampNeg))), (6, .int (-1)), (5, .int (-1)), (3, .int ((wI M a0 43 ((M.2.2.1 a0 43) + 1)).2.2.1 r3 ((M.2.2.1 a0 43).toNatClampNeg))), (2, .int (M.2.2.1 a0 43)), (0, .ref a0), (1, .int x1)]) rfl ?_
      refine a_aload_n dX11_linesFrom_120 rfl rfl ?_
      refine a_iload_n dX11_linesFrom_121 rfl rfl ?_
      obtain ⟨v17, M18, e19, h⟩ := bnd2_t h
      obtain ⟨n20, en21, e19⟩ := hc_X11_linesFrom e19
      refine e_callV (As := [.int x1]) (st := []) (a := a0) (ci := 11) false dX11_linesFrom_122 mw_X11_linesFrom (Or.inl ⟨rfl, ml_X11_420⟩) im_X11_linesFrom se_X11_linesFrom (by decide) ga1 gs2 rfl (Nat.le_of_ble_eq_true rfl) en21 e19 ?_
      refine a_istore dX11_linesFrom_125 (Nat.le_of_ble_eq_true rfl) (lv2 := [(4, .int v17), (7, .int ((wI M a0 43 ((M.2.2.1 a0 43) + 1)).2.2.1 r11 (((wI M a0 43 ((M.2.2.1 a0 43) + 1)).2.2.1 a0 43).toNatClampNeg))), (6, .int (-1)), (5, .int (-1)), (3, .int ((wI M a0 43 ((M.2.2.1 a0 43) + 1)).2.2.1 r3 ((M.2.2.1 a0 43).toNatClampNeg))), (2, .int (M.2.2.1 a0 43)), (0, .ref a0), (1, .int x1)]) rfl ?_
      refine a_iload_n dX11_linesFrom_127 rfl rfl ?_
      refine a_iconst (v := 2) dX11_linesFrom_128 (by decide) ?_
      refine a_icmp_eq 137 dX11_linesFrom_129 (by decide) (fun c22 => ?_) (fun c22 => ?_)
      · replace h := ite_t c22 h
        refine a_aload_n dX11_linesFrom_137 rfl rfl ?_
        refine a_iload_n dX11_linesFrom_138 rfl rfl ?_
        obtain ⟨⟨ga23, gs24⟩, h⟩ := gd_t h
        obtain ⟨v25, M26, e27, h⟩ := bnd2_t h
        obtain ⟨n28, en29, e27⟩ := hc_X11_linesFrom e27
        refine e_callV (As := [.int x1]) (st := []) (a := a0) (ci := 11) false dX11_linesFrom_139 mw_X11_linesFrom (Or.inl ⟨rfl, ml_X11_420⟩) im_X11_linesFrom se_X11_linesFrom (by decide) ga23 gs24 rfl (Nat.le_of_ble_eq_true rfl) en29 e27 ?_
        refine a_istore dX11_linesFrom_142 (Nat.le_of_ble_eq_true rfl) (lv2 := [(5, .int v25), (4, .int v17), (7, .int ((wI M a0 43 ((M.2.2.1 a0 43) + 1)).2.2.1 r11 (((wI M a0 43 ((M.2.2.1 a0 43) + 1)).2.2.1 a0 43).toNatClampNeg))), (6, .int (-1)), (3, .int ((wI M a0 43 ((M.2.2.1 a0 43) + 1)).2.2.1 r3 ((M.2.2.1 a0 43).toNatClampNeg))), (2, .int (M.2.2.1 a0 43)), (0, .ref a0), (1, .int x1)]) rfl ?_
        exact a_lv (lv2 := [(0, .ref a0), (1, .int x1), (2, .int (M.2.2.1 a0 43)), (3, .int ((wI M a0 43 ((M.2.2.1 a0 43) + 1)).2.2.1 r3 ((M.2.2.1 a0 43).toNatClampNeg))), (4, .int v17), (5, .int v25), (6, .int (-1)), (7, .int ((wI M a0 43 ((M.2.2.1 a0 43) + 1)).2.2.1 r11 (((wI M a0 43 ((M.2.2.1 a0 43) + 1)).2.2.1 a0 43).toNatClampNeg)))]) (fa_cons rfl (fa_cons rfl (fa_cons rfl (fa_cons rfl (fa_cons rfl (fa_cons rfl (fa_cons rfl (fa_cons rfl fa_nil)))))))) (hJ _ _ _ h)
      · replace h := ite_f c22 h
        refine a_iload_n dX11_linesFrom_132 rfl rfl ?_
        refine a_iconst (v := 3) dX11_linesFrom_133 (by decide) ?_
        refine a_icmp_ne 144 dX11_linesFrom_134 (by decide) (fun c30 => ?_) (fun c30 => ?_)
        · replace h := ite_f c30 h
          exact a_lv (lv2 := [(0, .ref a0), (1, .int x1), (2, .int (M.2.2.1 a0 43)), (3, .int ((wI M a0 43 ((M.2.2.1 a0 43) + 1)).2.2.1 r3 ((M.2.2.1 a0 43).toNatClampNeg))), (4, .int v17), (5, .int (-1)), (6, .int (-1)), (7, .int ((wI M a0 43 ((M.2.2.1 a0 43) + 1)).2.2.1 r11 (((wI M a0 43 ((M.2.2.1 a0 43) + 1)).2.2.1 a0 43).toNatClampNeg)))]) (fa_cons rfl (fa_cons rfl (fa_cons rfl (fa_cons rfl (fa_cons rfl (fa_cons rfl (fa_cons rfl (fa_cons rfl fa_nil)))))))) (hJ _ _ _ h)
        · replace h := ite_t c30 h
          refine a_aload_n dX11_linesFrom_137 rfl rfl ?_
          refine a_iload_n dX11_linesFrom_138 rfl rfl ?_
          obtain ⟨⟨ga31, gs32⟩, h⟩ := gd_t h
          obtain ⟨v33, M34, e35, h⟩ := bnd2_t h
          obtain ⟨n36, en37, e35⟩ := hc_X11_linesFrom e35
          refine e_callV (As := [.int x1]) (st := []) (a := a0) (ci := 11) false dX11_linesFrom_139 mw_X11_linesFrom (Or.inl ⟨rfl, ml_X11_420⟩) im_X11_linesFrom se_X11_linesFrom (by decide) ga31 gs32 rfl (Nat.le_of_ble_eq_true rfl) en37 e35 ?_
          refine a_istore dX11_linesFrom_142 (Nat.le_of_ble_eq_true rfl) (lv2 := [(5, .int v33), (4, .int v17), (7, .int ((wI M a0 43 ((M.2.2.1 a0 43) + 1)).2.2.1 r11 (((wI M a0 43 ((M.2.2.1 a0 43) + 1)).2.2.1 a0 43).toNatClampNeg))), (6, .int (-1)), (3, .int ((wI M a0 43 ((M.2.2.1 a0 43) + 1)).2.2.1 r3 ((M.2.2.1 a0 43).toNatClampNeg))), (2, .int (M.2.2.1 a0 43)), (0, .ref a0), (1, .int x1)]) rfl ?_
          exact a_lv (lv2 := [(0, .ref a0), (1, .int x1), (2, .int (M.2.2.1 a0 43)), (3, .int ((wI M a0 43 ((M.2.2.1 a0 43) + 1)).2.2.1 r3 ((M.2.2.1 a0 43).toNatClampNeg))), (4, .int v17), (5, .int v33), (6, .int (-1)), (7, .int ((wI M a0 43 ((M.2.2.1 a0 43) + 1)).2.2.1 r11 (((wI M a0 43 ((M.2.2.1 a0 43) + 1)).2.2.1 a0 43).toNatClampNeg)))]) (fa_cons rfl (fa_cons rfl (fa_cons rfl (fa_cons rfl (fa_cons rfl (fa_cons rfl (fa_cons rfl (fa_cons rfl fa_nil)))))))) (hJ _ _ _ h)
    · replace h := ite_t c10 h
      refine a_aload_n dX11_linesFrom_69 rfl rfl ?_
      obtain ⟨r38, e39, h⟩ := bnd_t h
      refine a_get (v := .ref r38) dX11_linesFrom_70 fl_11_114 ga1 gs2 (gvR e39 rfl) ?_
      refine a_iload_n dX11_linesFrom_73 rfl rfl ?_
      refine a_aload_n dX11_linesFrom_74 rfl rfl ?_
      refine a_iconst (v := 1) dX11_linesFrom_75 (by decide) ?_
      refine a_aload_n dX11_linesFrom_76 rfl rfl ?_
      obtain ⟨r40, e41, h⟩ := bnd_t h
      refine a_get (v := .ref r40) dX11_linesFrom_77 fl_11_62 ga1 gs2 (gvR e41 rfl) ?_
      refine a_iload_n dX11_linesFrom_80 rfl rfl ?_
      obtain ⟨⟨ga42, gn43, gs44, gi45⟩, h⟩ := gd_t h
      refine a_iaload dX11_linesFrom_81 ga42 gs44 gi45 ?_
      refine a_iload_n dX11_linesFrom_82 rfl rfl ?_
      refine a_iconst (v := 1) dX11_linesFrom_83 (by decide) ?_
      refine a_iadd dX11_linesFrom_84 ?_
      obtain ⟨v46, M47, e48, h⟩ := bnd2_t h
      obtain ⟨n49, en50, e48⟩ := cal_t e48
      refine e_callV (As := [.int 1, .int ((wI M a0 43 ((M.2.2.1 a0 43) + 1)).2.2.1 r40 ((M.2.2.1 a0 43).toNatClampNeg)), .int (x1 + 1)]) (st := [.int x1, .ref r38]) (a := a0) (ci := 11) false dX11_linesFrom_85 mw_X11_line0 (Or.inl ⟨rfl, ml_X11_417⟩) im_X11_line0 se_X11_line0 (by decide) ga1 gs2 rfl (Nat.le_of_ble_eq_true rfl) en50 (s_X11_line0 e48) ?_
      obtain ⟨⟨ga51, gn52, gs53, gi54⟩, h⟩ := gd_t h
      refine a_iastore dX11_linesFrom_88 ga51 gs53 gi54 ?_
      refine a_aload_n dX11_linesFrom_89 rfl rfl ?_
      obtain ⟨⟨ga55, gs56⟩, h⟩ := gd_t h
      obtain ⟨r57, e58, h⟩ := bnd_t h
      refine a_get (v := .ref r57) dX11_linesFrom_90 fl_11_114 ga55 gs56 (gvR e58 rfl) ?_
      refine a_iload_n dX11_linesFrom_93 rfl rfl ?_
      obtain ⟨⟨ga59, gn60, gs61, gi62⟩, h⟩ := gd_t h
      refine a_iaload dX11_linesFrom_94 ga59 gs61 gi62 ?_
      refine a_istore dX11_linesFrom_95 (Nat.le_of_ble_eq_true rfl) (lv2 := [(4, .int ((wI M47 r38 (x1.toNatClampNeg) v46).2.2.1 r57 (x1.toNatClampNeg))), (6, .int (-1)), (5, .int (-1)), (3, .int ((wI M a0 43 ((M.2.2.1 a0 43) + 1)).2.2.1 r3 ((M.2.2.1 a0 43).toNatClampNeg))), (2, .int (M.2.2.1 a0 43)), (0, .ref a0), (1, .int x1)]) rfl ?_
      refine a_aload_n dX11_linesFrom_97 rfl rfl ?_
      refine a_iload_n dX11_linesFrom_98 rfl rfl ?_
      refine a_iconst (v := 1) dX11_linesFrom_99 (by decide) ?_
      refine a_iadd dX11_linesFrom_100 ?_
      obtain ⟨v63, M64, e65, h⟩ := bnd2_t h
      obtain ⟨n66, en67, e65⟩ := hc_X11_linesFrom e65
      refine e_callV (As := [.int (x1 + 1)]) (st := []) (a := a0) (ci := 11) false dX11_linesFrom_101 mw_X11_linesFrom (Or.inl ⟨rfl, ml_X11_420⟩) im_X11_linesFrom se_X11_linesFrom (by decide) ga55 gs56 rfl (Nat.le_of_ble_eq_true rfl) en67 e65 ?_
      refine a_istore dX11_linesFrom_104 (Nat.le_of_ble_eq_true rfl) (lv2 := [(5, .int v63), (4, .int ((wI M47 r38 (x1.toNatClampNeg) v46).2.2.1 r57 (x1.toNatClampNeg))), (6, .int (-1)), (3, .int ((wI M a0 43 ((M.2.2.1 a0 43) + 1)).2.2.1 r3 ((M.2.2.1 a0 43).toNatClampNeg))), (2, .int (M.2.2.1 a0 43)), (0, .ref a0), (1, .int x1)]) rfl ?_
      refine a_goto 210 dX11_linesFrom_106 (by decide) ?_
      exact a_lv (lv2 := [(0, .ref a0), (1, .int x1), (2, .int (M.2.2.1 a0 43)), (3, .int ((wI M a0 43 ((M.2.2.1 a0 43) + 1)).2.2.1 r3 ((M.2.2.1 a0 43).toNatClampNeg))), (4, .int ((wI M47 r38 (x1.toNatClampNeg) v46).2.2.1 r57 (x1.toNatClampNeg))), (5, .int v63), (6, .int (-1))]) (fa_cons rfl (fa_cons rfl (fa_cons rfl (fa_cons rfl (fa_cons rfl (fa_cons rfl (fa_cons rfl fa_nil))))))) (hJ _ _ _ h)
  · replace h := ite_t c9 h
    refine a_aload_n dX11_linesFrom_26 rfl rfl ?_
    obtain ⟨r68, e69, h⟩ := bnd_t h
    refine a_get (v := .ref r68) dX11_linesFrom_27 fl_11_62 ga1 gs2 (gvR e69 rfl) ?_
    refine a_iload_n dX11_linesFrom_30 rfl rfl ?_
    obtain ⟨⟨ga70, gn71, gs72, gi73⟩, h⟩ := gd_t h
    refine a_iaload dX11_linesFrom_31 ga70 gs72 gi73 ?_
    refine a_if_ge 46 dX11_linesFrom_32 (by decide) (fun c74 => ?_) (fun c74 => ?_)
    · replace h := ite_t c74 h
      refine a_aload_n dX11_linesFrom_46 rfl rfl ?_
      obtain ⟨r75, e76, h⟩ := bnd_t h
      refine a_get (v := .ref r75) dX11_linesFrom_47 fl_11_114 ga1 gs2 (gvR e76 rfl) ?_
      refine a_aload_n dX11_linesFrom_50 rfl rfl ?_
      refine a_get (v := .ref r68) dX11_linesFrom_51 fl_11_62 ga1 gs2 (gvR e69 rfl) ?_
      refine a_iload_n dX11_linesFrom_54 rfl rfl ?_
      refine a_iaload dX11_linesFrom_55 ga70 gs72 gi73 ?_
      obtain ⟨⟨ga77, gn78, gs79, gi80⟩, h⟩ := gd_t h
      refine a_iaload dX11_linesFrom_56 ga77 gs79 gi80 ?_
      exact a_iret dX11_linesFrom_57 rfl (hR _ _ h)
    · replace h := ite_f c74 h
      refine a_iconst (v := -1) dX11_linesFrom_35 (by decide) ?_
      refine a_aload_n dX11_linesFrom_36 rfl rfl ?_
      refine a_get (v := .ref r68) dX11_linesFrom_37 fl_11_62 ga1 gs2 (gvR e69 rfl) ?_
      refine a_iload_n dX11_linesFrom_40 rfl rfl ?_
      refine a_iaload dX11_linesFrom_41 ga70 gs72 gi73 ?_
      refine a_isub dX11_linesFrom_42 ?_
      refine a_goto 57 dX11_linesFrom_43 (by decide) ?_
      exact a_iret dX11_linesFrom_57 rfl (hR _ _ h)
set_option maxHeartbeats 4000000 in
set_option maxRecDepth 100000 in
noncomputable def T_X11_linesFrom_144.{u} {α : Sort u} (J : Nat → List Value → Mem → α) (R : Int32 → Mem → α) (N : α) (cl : Nat → List Value → Mem → Option (Int32 × Mem)) (n : Nat) (a0 : Nat) (x1 : Int32) (x2 : Int32) (x3 : Int32) (x4 : Int32) (x5 : Int32) (x6 : Int32) (x7 : Int32) (M : Mem) : α := if x3 = 8 then gd (fO M a0 11) N (bnd (M.2.2.2.2 a0 55) N (fun r4 => bnd (M.2.2.2.2 a0 2) N (fun r6 => gd (fA M r6 1 x7) N (bnd2 (cal n (fun n => f_X11_line0 n a0 1 (M.2.2.1 r6 (x7.toNatClampNeg)) (x1 + 1) M)) N (fun v12 M13 => gd (fA M13 r4 1 x1) N (gd (fO M13 a0 11) N (bnd2 (cl 0 [.ref a0, .int (x1 + 1)] (wI M13 r4 (x1.toNatClampNeg) v12)) N (fun v23 M24 => gd (fO M24 a0 11) N (bnd (M24.2.2.2.2 a0 55) N (fun r30 => bnd (M24.2.2.2.2 a0 3) N (fun r32 => gd (fA M24 r32 1 x7) N (bnd2 (cal n (fun n => f_X11_line0 n a0 1 (M24.2.2.1 r32 (x7.toNatClampNeg)) (x1 + 1) M24)) N (fun v38 M39 => gd (fA M39 r30 1 x1) N (gd (fO M39 a0 11) N (bnd2 (cl 0 [.ref a0, .int (x1 + 1)] (wI M39 r30 (x1.toNatClampNeg) v38)) N (fun v49 M50 => J 210 [.ref a0, .int x1, .int x2, .int x3, .int x4, .int v23, .int v49] M50)))))))))))))))) else J 210 [.ref a0, .int x1, .int x2, .int x3, .int x4, .int x5, .int x6] M
set_option maxHeartbeats 4000000 in
set_option maxRecDepth 100000 in
theorem n_X11_linesFrom_144.{u, v} {α : Sort u} {β : Sort v} (h : α → β) (J : Nat → List Value → Mem → α) (R : Int32 → Mem → α) (N : α) (cl : Nat → List Value → Mem → Option (Int32 × Mem)) (n : Nat) (a0 : Nat) (x1 : Int32) (x2 : Int32) (x3 : Int32) (x4 : Int32) (x5 : Int32) (x6 : Int32) (x7 : Int32) (M : Mem) : h (T_X11_linesFrom_144 J R N cl n a0 x1 x2 x3 x4 x5 x6 x7 M) = T_X11_linesFrom_144 (fun c l M => h (J c l M)) (fun v M => h (R v M)) (h N) cl n a0 x1 x2 x3 x4 x5 x6 x7 M := by
  simp only [T_X11_linesFrom_144, nat_ite h, nat_gd h, nat_bnd h, nat_bnd2 h]
set_option maxHeartbeats 4000000 in
set_option maxRecDepth 100000 in
theorem w_X11_linesFrom_144 {X : Nat × (Nat → Int32)} {al : Bool} {n : Nat} {Q : Option Value → Mem → Prop} {J : Nat → List Value → Mem → Prop} (hJ : ∀ c l M, J c l M → PW_X11_linesFrom X al n Q c l M) {R : Int32 → Mem → Prop} (hR : ∀ v M, R v M → Q (some (.int v)) M) {cl : Nat → List Value → Mem → Option (Int32 × Mem)} (hc_X11_linesFrom : ∀ {a0 : Nat} {x1 : Int32} {M : Mem} {v : Int32} {M1 : Mem}, cl 0 [.ref a0, .int x1] M = some (v, M1) → ∃ k, n = k + 1 ∧ AE yX11_linesFrom cX11_linesFrom 8 (some .int) al k X [.ref a0, .int x1] M (some (.int v)) M1) {a0 : Nat} {x1 : Int32} {x2 : Int32} {x3 : Int32} {x4 : Int32} {x5 : Int32} {x6 : Int32} {x7 : Int32} {M : Mem} (h : T_X11_linesFrom_144 J R False cl n a0 x1 x2 x3 x4 x5 x6 x7 M) : AW X (RX11, cX11_linesFrom, 8, (some .int), false, al, n) 0 0 144 [(0, .ref a0), (1, .int x1), (2, .int x2), (3, .int x3), (4, .int x4), (5, .int x5), (6, .int x6), (7, .int x7)] [] M Q := by
  unfold T_X11_linesFrom_144 at h
  refine a_iload_n dX11_linesFrom_144 rfl rfl ?_
  refine a_bipush (v := 8) dX11_linesFrom_145 (by decide) ?_
  refine a_icmp_ne 210 dX11_linesFrom_147 (by decide) (fun c1 => ?_) (fun c1 => ?_)
  · replace h := ite_f c1 h
    exact a_lv (lv2 := [(0, .ref a0), (1, .int x1), (2, .int x2), (3, .int x3), (4, .int x4), (5, .int x5), (6, .int x6)]) (fa_cons rfl (fa_cons rfl (fa_cons rfl (fa_cons rfl (fa_cons rfl (fa_cons rfl (fa_cons rfl fa_nil))))))) (hJ _ _ _ h)
  · replace h := ite_t c1 h
    refine a_aload_n dX11_linesFrom_150 rfl rfl ?_
    obtain ⟨⟨ga2, gs3⟩, h⟩ := gd_t h
    obtain ⟨r4, e5, h⟩ := bnd_t h
    refine a_get (v := .ref r4) dX11_linesFrom_151 fl_11_114 ga2 gs3 (gvR e5 rfl) ?_
    refine a_iload_n dX11_linesFrom_154 rfl rfl ?_
    refine a_aload_n dX11_linesFrom_155 rfl rfl ?_
    refine a_iconst (v := 1) dX11_linesFrom_156 (by decide) ?_
    refine a_aload_n dX11_linesFrom_157 rfl rfl ?_
    obtain ⟨r6, e7, h⟩ := bnd_t h
    refine a_get (v := .ref r6) dX11_linesFrom_158 fl_11_17 ga2 gs3 (gvR e7 rfl) ?_
    refine a_iload dX11_linesFrom_161 rfl ?_
    obtain ⟨⟨ga8, gn9, gs10, gi11⟩, h⟩ := gd_t h
    refine a_iaload dX11_linesFrom_163 ga8 gs10 gi11 ?_
    refine a_iload_n dX11_linesFrom_164 rfl rfl ?_
    refine a_iconst (v := 1) dX11_linesFrom_165 (by decide) ?_
    refine a_iadd dX11_linesFrom_166 ?_
    obtain ⟨v12, M13, e14, h⟩ := bnd2_t h
    obtain ⟨n15, en16, e14⟩ := cal_t e14
    refine e_callV (As := [.int 1, .int (M.2.2.1 r6 (x7.toNatClampNeg)), .int (x1 + 1)]) (st := [.int x1, .ref r4]) (a := a0) (ci := 11) false dX11_linesFrom_167 mw_X11_line0 (Or.inl ⟨rfl, ml_X11_417⟩) im_X11_line0 se_X11_line0 (by decide) ga2 gs3 rfl (Nat.le_of_ble_eq_true rfl) en16 (s_X11_line0 e14) ?_
    obtain ⟨⟨ga17, gn18, gs19, gi20⟩, h⟩ := gd_t h
    refine a_iastore dX11_linesFrom_170 ga17 gs19 gi20 ?_
    refine a_aload_n dX11_linesFrom_171 rfl rfl ?_
    refine a_iload_n dX11_linesFrom_172 rfl rfl ?_
    refine a_iconst (v := 1) dX11_linesFrom_173 (by decide) ?_
    refine a_iadd dX11_linesFrom_174 ?_
    obtain ⟨⟨ga21, gs22⟩, h⟩ := gd_t h
    obtain ⟨v23, M24, e25, h⟩ := bnd2_t h
    obtain ⟨n26, en27, e25⟩ := hc_X11_linesFrom e25
    refine e_callV (As := [.int (x1 + 1)]) (st := []) (a := a0) (ci := 11) false dX11_linesFrom_175 mw_X11_linesFrom (Or.inl ⟨rfl, ml_X11_420⟩) im_X11_linesFrom se_X11_linesFrom (by decide) ga21 gs22 rfl (Nat.le_of_ble_eq_true rfl) en27 e25 ?_
    refine a_istore dX11_linesFrom_178 (Nat.le_of_ble_eq_true rfl) (lv2 := [(5, .int v23), (0, .ref a0), (1, .int x1), (2, .int x2), (3, .int x3), (4, .int x4), (6, .int x6), (7, .int x7)]) rfl ?_
    refine a_aload_n dX11_linesFrom_180 rfl rfl ?_
    obtain ⟨⟨ga28, gs29⟩, h⟩ := gd_t h
    obtain ⟨r30, e31, h⟩ := bnd_t h
    refine a_get (v := .ref r30) dX11_linesFrom_181 fl_11_114 ga28 gs29 (gvR e31 rfl) ?_
    refine a_iload_n dX11_linesFrom_184 rfl rfl ?_
    refine a_aload_n dX11_linesFrom_185 rfl rfl ?_
    refine a_iconst (v := 1) dX11_linesFrom_186 (by decide) ?_
    refine a_aload_n dX11_linesFrom_187 rfl rfl ?_
    obtain ⟨r32, e33, h⟩ := bnd_t h
    refine a_get (v := .ref r32) dX11_linesFrom_188 fl_11_20 ga28 gs29 (gvR e33 rfl) ?_
    refine a_iload dX11_linesFrom_191 rfl ?_
    obtain ⟨⟨ga34, gn35, gs36, gi37⟩, h⟩ := gd_t h
    refine a_iaload dX11_linesFrom_193 ga34 gs36 gi37 ?_
    refine a_iload_n dX11_linesFrom_194 rfl rfl ?_
    refine a_iconst (v := 1) dX11_linesFrom_195 (by decide) ?_
    refine a_iadd dX11_linesFrom_196 ?_
    obtain ⟨v38, M39, e40, h⟩ := bnd2_t h
    obtain ⟨n41, en42, e40⟩ := cal_t e40
    refine e_callV (As := [.int 1, .int (M24.2.2.1 r32 (x7.toNatClampNeg)), .int (x1 + 1)]) (st := [.int x1, .ref r30]) (a := a0) (ci := 11) false dX11_linesFrom_197 mw_X11_line0 (Or.inl ⟨rfl, ml_X11_417⟩) im_X11_line0 se_X11_line0 (by decide) ga28 gs29 rfl (Nat.le_of_ble_eq_true rfl) en42 (s_X11_line0 e40) ?_
    obtain ⟨⟨ga43, gn44, gs45, gi46⟩, h⟩ := gd_t h
    refine a_iastore dX11_linesFrom_200 ga43 gs45 gi46 ?_
    refine a_aload_n dX11_linesFrom_201 rfl rfl ?_
    refine a_iload_n dX11_linesFrom_202 rfl rfl ?_
    refine a_iconst (v := 1) dX11_linesFrom_203 (by decide) ?_
    refine a_iadd dX11_linesFrom_204 ?_
    obtain ⟨⟨ga47, gs48⟩, h⟩ := gd_t h
    obtain ⟨v49, M50, e51, h⟩ := bnd2_t h
    obtain ⟨n52, en53, e51⟩ := hc_X11_linesFrom e51
    refine e_callV (As := [.int (x1 + 1)]) (st := []) (a := a0) (ci := 11) false dX11_linesFrom_205 mw_X11_linesFrom (Or.inl ⟨rfl, ml_X11_420⟩) im_X11_linesFrom se_X11_linesFrom (by decide) ga47 gs48 rfl (Nat.le_of_ble_eq_true rfl) en53 e51 ?_
    refine a_istore dX11_linesFrom_208 (Nat.le_of_ble_eq_true rfl) (lv2 := [(6, .int v49), (5, .int v23), (0, .ref a0), (1, .int x1), (2, .int x2), (3, .int x3), (4, .int x4), (7, .int x7)]) rfl ?_
    exact a_lv (lv2 := [(0, .ref a0), (1, .int x1), (2, .int x2), (3, .int x3), (4, .int x4), (5, .int v23), (6, .int v49)]) (fa_cons rfl (fa_cons rfl (fa_cons rfl (fa_cons rfl (fa_cons rfl (fa_cons rfl (fa_cons rfl fa_nil))))))) (hJ _ _ _ h)
set_option maxHeartbeats 4000000 in
set_option maxRecDepth 100000 in
noncomputable def T_X11_linesFrom_210.{u} {α : Sort u} (J : Nat → List Value → Mem → α) (R : Int32 → Mem → α) (N : α) (cl : Nat → List Value → Mem → Option (Int32 × Mem)) (n : Nat) (a0 : Nat) (x1 : Int32) (x2 : Int32) (x3 : Int32) (x4 : Int32) (x5 : Int32) (x6 : Int32) (M : Mem) : α := gd (fO M a0 11) N (bnd (M.2.2.2.2 a0 40) N (fun r3 => gd (fA M r3 1 x2) N (bnd2 (cal n (fun n => f_X11_line0 n a0 ((x3 - 1) + 2) (M.2.2.1 r3 (x2.toNatClampNeg)) x1 M)) N (fun v9 M10 => gd (fO M10 a0 11) N (bnd (M10.2.2.2.2 a0 53) N (fun r16 => gd (fA M10 r16 1 (3 * v9)) N (gd (fA M10 r16 1 ((3 * v9) + 1)) N (gd (fA M10 r16 1 ((3 * v9) + 2)) N (R v9 (wI (wI (wI M10 r16 ((3 * v9).toNatClampNeg) x4) r16 (((3 * v9) + 1).toNatClampNeg) x5) r16 (((3 * v9) + 2).toNatClampNeg) x6))))))))))
set_option maxHeartbeats 4000000 in
set_option maxRecDepth 100000 in
theorem n_X11_linesFrom_210.{u, v} {α : Sort u} {β : Sort v} (h : α → β) (J : Nat → List Value → Mem → α) (R : Int32 → Mem → α) (N : α) (cl : Nat → List Value → Mem → Option (Int32 × Mem)) (n : Nat) (a0 : Nat) (x1 : Int32) (x2 : Int32) (x3 : Int32) (x4 : Int32) (x5 : Int32) (x6 : Int32) (M : Mem) : h (T_X11_linesFrom_210 J R N cl n a0 x1 x2 x3 x4 x5 x6 M) = T_X11_linesFrom_210 (fun c l M => h (J c l M)) (fun v M => h (R v M)) (h N) cl n a0 x1 x2 x3 x4 x5 x6 M := by
  simp only [T_X11_linesFrom_210, nat_ite h, nat_gd h, nat_bnd h, nat_bnd2 h]
set_option maxHeartbeats 4000000 in
set_option maxRecDepth 100000 in
theorem w_X11_linesFrom_210 {X : Nat × (Nat → Int32)} {al : Bool} {n : Nat} {Q : Option Value → Mem → Prop} {J : Nat → List Value → Mem → Prop} (hJ : ∀ c l M, J c l M → PW_X11_linesFrom X al n Q c l M) {R : Int32 → Mem → Prop} (hR : ∀ v M, R v M → Q (some (.int v)) M) {cl : Nat → List Value → Mem → Option (Int32 × Mem)} (hc_X11_linesFrom : ∀ {a0 : Nat} {x1 : Int32} {M : Mem} {v : Int32} {M1 : Mem}, cl 0 [.ref a0, .int x1] M = some (v, M1) → ∃ k, n = k + 1 ∧ AE yX11_linesFrom cX11_linesFrom 8 (some .int) al k X [.ref a0, .int x1] M (some (.int v)) M1) {a0 : Nat} {x1 : Int32} {x2 : Int32} {x3 : Int32} {x4 : Int32} {x5 : Int32} {x6 : Int32} {M : Mem} (h : T_X11_linesFrom_210 J R False cl n a0 x1 x2 x3 x4 x5 x6 M) : AW X (RX11, cX11_linesFrom, 8, (some .int), false, al, n) 0 0 210 [(0, .ref a0), (1, .int x1), (2, .int x2), (3, .int x3), (4, .int x4), (5, .int x5), (6, .int x6)] [] M Q := by
  unfold T_X11_linesFrom_210 at h
  refine a_aload_n dX11_linesFrom_210 rfl rfl ?_
  refine a_iload_n dX11_linesFrom_211 rfl rfl ?_
  refine a_iconst (v := 1) dX11_linesFrom_212 (by decide) ?_
  refine a_isub dX11_linesFrom_213 ?_
  refine a_iconst (v := 2) dX11_linesFrom_214 (by decide) ?_
  refine a_iadd dX11_linesFrom_215 ?_
  refine a_aload_n dX11_linesFrom_216 rfl rfl ?_
  obtain ⟨⟨ga1, gs2⟩, h⟩ := gd_t h
  obtain ⟨r3, e4, h⟩ := bnd_t h
  refine a_get (v := .ref r3) dX11_linesFrom_217 fl_11_87 ga1 gs2 (gvR e4 rfl) ?_
  refine a_iload_n dX11_linesFrom_220 rfl rfl ?_
  obtain ⟨⟨ga5, gn6, gs7, gi8⟩, h⟩ := gd_t h
  refine a_iaload dX11_linesFrom_221 ga5 gs7 gi8 ?_
  refine a_iload_n dX11_linesFrom_222 rfl rfl ?_
  obtain ⟨v9, M10, e11, h⟩ := bnd2_t h
  obtain ⟨n12, en13, e11⟩ := cal_t e11
  refine e_callV (As := [.int ((x3 - 1) + 2), .int (M.2.2.1 r3 (x2.toNatClampNeg)), .int x1]) (st := []) (a := a0) (ci := 11) false dX11_linesFrom_223 mw_X11_line0 (Or.inl ⟨rfl, ml_X11_417⟩) im_X11_line0 se_X11_line0 (by decide) ga1 gs2 rfl (Nat.le_of_ble_eq_true rfl) en13 (s_X11_line0 e11) ?_
  refine a_istore dX11_linesFrom_226 (Nat.le_of_ble_eq_true rfl) (lv2 := [(7, .int v9), (0, .ref a0), (1, .int x1), (2, .int x2), (3, .int x3), (4, .int x4), (5, .int x5), (6, .int x6)]) rfl ?_
  refine a_aload_n dX11_linesFrom_228 rfl rfl ?_
  obtain ⟨⟨ga14, gs15⟩, h⟩ := gd_t h
  obtain ⟨r16, e17, h⟩ := bnd_t h
  refine a_get (v := .ref r16) dX11_linesFrom_229 fl_11_108 ga14 gs15 (gvR e17 rfl) ?_
  refine a_iconst (v := 3) dX11_linesFrom_232 (by decide) ?_
  refine a_iload dX11_linesFrom_233 rfl ?_
  refine a_imul dX11_linesFrom_235 ?_
  refine a_iload dX11_linesFrom_236 rfl ?_
  obtain ⟨⟨ga18, gn19, gs20, gi21⟩, h⟩ := gd_t h
  refine a_iastore dX11_linesFrom_238 ga18 gs20 gi21 ?_
  refine a_aload_n dX11_linesFrom_239 rfl rfl ?_
  refine a_get (v := .ref r16) dX11_linesFrom_240 fl_11_108 ga14 gs15 (gvR e17 rfl) ?_
  refine a_iconst (v := 3) dX11_linesFrom_243 (by decide) ?_
  refine a_iload dX11_linesFrom_244 rfl ?_
  refine a_imul dX11_linesFrom_246 ?_
  refine a_iconst (v := 1) dX11_linesFrom_247 (by decide) ?_
  refine a_iadd dX11_linesFrom_248 ?_
  refine a_iload dX11_linesFrom_249 rfl ?_
  obtain ⟨⟨ga22, gn23, gs24, gi25⟩, h⟩ := gd_t h
  refine a_iastore dX11_linesFrom_251 ga22 gs24 gi25 ?_
  refine a_aload_n dX11_linesFrom_252 rfl rfl ?_
  refine a_get (v := .ref r16) dX11_linesFrom_253 fl_11_108 ga14 gs15 (gvR e17 rfl) ?_
  refine a_iconst (v := 3) dX11_linesFrom_256 (by decide) ?_
  refine a_iload dX11_linesFrom_257 rfl ?_
  refine a_imul dX11_linesFrom_259 ?_
  refine a_iconst (v := 2) dX11_linesFrom_260 (by decide) ?_
  refine a_iadd dX11_linesFrom_261 ?_
  refine a_iload dX11_linesFrom_262 rfl ?_
  obtain ⟨⟨ga26, gn27, gs28, gi29⟩, h⟩ := gd_t h
  refine a_iastore dX11_linesFrom_264 ga26 gs28 gi29 ?_
  refine a_iload dX11_linesFrom_265 rfl ?_
  exact a_iret dX11_linesFrom_267 rfl (hR _ _ h)
set_option maxHeartbeats 4000000 in
set_option maxRecDepth 100000 in
noncomputable def st_X11_linesFrom (cl : Nat → List Value → Mem → Option (Int32 × Mem)) (n : Nat) (s : Sg) : Option (Sg ⊕ (Int32 × Mem)) := if s.1 = 0 then vR s.2.1 none (fun a0 t => vI t none (fun x1 t => vE t none (T_X11_linesFrom_0 (fun c l M => some (.inl (c, l, M))) (fun v M => some (.inr (v, M))) none cl n a0 x1 s.2.2))) else if s.1 = 144 then vR s.2.1 none (fun a0 t => vI t none (fun x1 t => vI t none (fun x2 t => vI t none (fun x3 t => vI t none (fun x4 t => vI t none (fun x5 t => vI t none (fun x6 t => vI t none (fun x7 t => vE t none (T_X11_linesFrom_144 (fun c l M => some (.inl (c, l, M))) (fun v M => some (.inr (v, M))) none cl n a0 x1 x2 x3 x4 x5 x6 x7 s.2.2))))))))) else if s.1 = 210 then vR s.2.1 none (fun a0 t => vI t none (fun x1 t => vI t none (fun x2 t => vI t none (fun x3 t => vI t none (fun x4 t => vI t none (fun x5 t => vI t none (fun x6 t => vE t none (T_X11_linesFrom_210 (fun c l M => some (.inl (c, l, M))) (fun v M => some (.inr (v, M))) none cl n a0 x1 x2 x3 x4 x5 x6 s.2.2)))))))) else none
noncomputable abbrev g_X11_linesFrom_0 (cl : Nat → List Value → Mem → Option (Int32 × Mem)) (n : Nat) (a0 : Nat) (x1 : Int32) (M : Mem) : Option (Int32 × Mem) := lp (st_X11_linesFrom cl n) (0, [.ref a0, .int x1], M)
set_option maxHeartbeats 4000000 in
set_option maxRecDepth 100000 in
theorem ge_X11_linesFrom_0 (cl : Nat → List Value → Mem → Option (Int32 × Mem)) (n : Nat) (a0 : Nat) (x1 : Int32) (M : Mem) : g_X11_linesFrom_0 cl n a0 x1 M = T_X11_linesFrom_0 (fun c l M => lp (st_X11_linesFrom cl n) (c, l, M)) (fun v M => some (v, M)) none cl n a0 x1 M := (lp_eq _ _).trans (n_X11_linesFrom_0 (lpK (st_X11_linesFrom cl n)) (fun c l M => some (.inl (c, l, M))) (fun v M => some (.inr (v, M))) none cl n a0 x1 M)
noncomputable abbrev g_X11_linesFrom_144 (cl : Nat → List Value → Mem → Option (Int32 × Mem)) (n : Nat) (a0 : Nat) (x1 : Int32) (x2 : Int32) (x3 : Int32) (x4 : Int32) (x5 : Int32) (x6 : Int32) (x7 : Int32) (M : Mem) : Option (Int32 × Mem) := lp (st_X11_linesFrom cl n) (144, [.ref a0, .int x1, .int x2, .int x3, .int x4, .int x5, .int x6, .int x7], M)
set_option maxHeartbeats 4000000 in
set_option maxRecDepth 100000 in
theorem ge_X11_linesFrom_144 (cl : Nat → List Value → Mem → Option (Int32 × Mem)) (n : Nat) (a0 : Nat) (x1 : Int32) (x2 : Int32) (x3 : Int32) (x4 : Int32) (x5 : Int32) (x6 : Int32) (x7 : Int32) (M : Mem) : g_X11_linesFrom_144 cl n a0 x1 x2 x3 x4 x5 x6 x7 M = T_X11_linesFrom_144 (fun c l M => lp (st_X11_linesFrom cl n) (c, l, M)) (fun v M => some (v, M)) none cl n a0 x1 x2 x3 x4 x5 x6 x7 M := (lp_eq _ _).trans (n_X11_linesFrom_144 (lpK (st_X11_linesFrom cl n)) (fun c l M => some (.inl (c, l, M))) (fun v M => some (.inr (v, M))) none cl n a0 x1 x2 x3 x4 x5 x6 x7 M)
noncomputable abbrev g_X11_linesFrom_210 (cl : Nat → List Value → Mem → Option (Int32 × Mem)) (n : Nat) (a0 : Nat) (x1 : Int32) (x2 : Int32) (x3 : Int32) (x4 : Int32) (x5 : Int32) (x6 : Int32) (M : Mem) : Option (Int32 × Mem) := lp (st_X11_linesFrom cl n) (210, [.ref a0, .int x1, .int x2, .int x3, .int x4, .int x5, .int x6], M)
set_option maxHeartbeats 4000000 in
set_option maxRecDepth 100000 in
theorem ge_X11_linesFrom_210 (cl : Nat → List Value → Mem → Option (Int32 × Mem)) (n : Nat) (a0 : Nat) (x1 : Int32) (x2 : Int32) (x3 : Int32) (x4 : Int32) (x5 : Int32) (x6 : Int32) (M : Mem) : g_X11_linesFrom_210 cl n a0 x1 x2 x3 x4 x5 x6 M = T_X11_linesFrom_210 (fun c l M => lp (st_X11_linesFrom cl n) (c, l, M)) (fun v M => some (v, M)) none cl n a0 x1 x2 x3 x4 x5 x6 M := (lp_eq _ _).trans (n_X11_linesFrom_210 (lpK (st_X11_linesFrom cl n)) (fun c l M => some (.inl (c, l, M))) (fun v M => some (.inr (v, M))) none cl n a0 x1 x2 x3 x4 x5 x6 M)
noncomputable def b_X11_linesFrom (cl : Nat → List Value → Mem → Option (Int32 × Mem)) (n : Nat) (a0 : Nat) (x1 : Int32) (M : Mem) : Option (Int32 × Mem) := g_X11_linesFrom_0 cl n a0 x1 M
set_option maxHeartbeats 4000000 in
set_option maxRecDepth 100000 in
theorem sb_X11_linesFrom {X : Nat × (Nat → Int32)} {al : Bool} {n : Nat} {cl : Nat → List Value → Mem → Option (Int32 × Mem)} (hc_X11_linesFrom : ∀ {a0 : Nat} {x1 : Int32} {M : Mem} {v : Int32} {M1 : Mem}, cl 0 [.ref a0, .int x1] M = some (v, M1) → ∃ k, n = k + 1 ∧ AE yX11_linesFrom cX11_linesFrom 8 (some .int) al k X [.ref a0, .int x1] M (some (.int v)) M1) {a0 : Nat} {x1 : Int32} {M : Mem} {v : Int32} {M1 : Mem} (h : b_X11_linesFrom cl n a0 x1 M = some (v, M1)) : AE yX11_linesFrom cX11_linesFrom 8 (some .int) al n X [.ref a0, .int x1] M (some (.int v)) M1 := by
  refine AM.of false (by decide +kernel) (by intro h; cases h) (Nat.le_of_ble_eq_true rfl) ?_
  refine lp_snd (P := fun s r => PW_X11_linesFrom X al n (fun v M2 => v = (some (.int r.1)) ∧ M2 = r.2) s.1 s.2.1 s.2.2) ?_ h
  clear h
  rintro ⟨c, l, M⟩ r h
  unfold st_X11_linesFrom at h
  rcases ite_p h with ⟨e, h⟩ | ⟨e, h⟩
  · replace e : c = 0 := e
    subst e
    obtain ⟨a0, tt0, e, h⟩ := vR_p id h
    replace e : l = _ := e
    subst e
    obtain ⟨x1, tt1, e, h⟩ := vI_p id h
    replace e : tt0 = _ := e
    subst e
    obtain ⟨e, h⟩ := vE_p id h
    replace e : tt1 = [] := e
    subst e
    exact w_X11_linesFrom_0 (J := fun c l M => PW_X11_linesFrom X al n (fun v M2 => v = (some (.int r.1)) ∧ M2 = r.2) c l M) (R := fun v M => (v, M) = r) (fun _ _ _ h => h) (fun v M h => by cases h; exact ⟨rfl, rfl⟩) hc_X11_linesFrom ((n_X11_linesFrom_0 (lpP (fun (s : Sg) (r : Int32 × Mem) => PW_X11_linesFrom X al n (fun v M2 => v = (some (.int r.1)) ∧ M2 = r.2) s.1 s.2.1 s.2.2) r) (fun c l M => some (.inl (c, l, M))) (fun v M => some (.inr (v, M))) none cl n a0 x1 M).mp h)
  rcases ite_p h with ⟨e, h⟩ | ⟨e, h⟩
  · replace e : c = 144 := e
    subst e
    obtain ⟨a0, tt0, e, h⟩ := vR_p id h
    replace e : l = _ := e
    subst e
    obtain ⟨x1, tt1, e, h⟩ := vI_p id h
    replace e : tt0 = _ := e
    subst e
    obtain ⟨x2, tt2, e, h⟩ := vI_p id h
    replace e : tt1 = _ := e
    subst e
    obtain ⟨x3, tt3, e, h⟩ := vI_p id h
    replace e : tt2 = _ := e
    subst e
    obtain ⟨x4, tt4, e, h⟩ := vI_p id h
    replace e : tt3 = _ := e
    subst e
    obtain ⟨x5, tt5, e, h⟩ := vI_p id h
    replace e : tt4 = _ := e
    subst e
    obtain ⟨x6, tt6, e, h⟩ := vI_p id h
    replace e : tt5 = _ := e
    subst e
    obtain ⟨x7, tt7, e, h⟩ := vI_p id h
    replace e : tt6 = _ := e
    subst e
    obtain ⟨e, h⟩ := vE_p id h
    replace e : tt7 = [] := e
    subst e
    exact w_X11_linesFrom_144 (J := fun c l M => PW_X11_linesFrom X al n (fun v M2 => v = (some (.int r.1)) ∧ M2 = r.2) c l M) (R := fun v M => (v, M) = r) (fun _ _ _ h => h) (fun v M h => by cases h; exact ⟨rfl, rfl⟩) hc_X11_linesFrom ((n_X11_linesFrom_144 (lpP (fun (s : Sg) (r : Int32 × Mem) => PW_X11_linesFrom X al n (fun v M2 => v = (some (.int r.1)) ∧ M2 = r.2) s.1 s.2.1 s.2.2) r) (fun c l M => some (.inl (c, l, M))) (fun v M => some (.inr (v, M))) none cl n a0 x1 x2 x3 x4 x5 x6 x7 M).mp h)
  rcases ite_p h with ⟨e, h⟩ | ⟨e, h⟩
  · replace e : c = 210 := e
    subst e
    obtain ⟨a0, tt0, e, h⟩ := vR_p id h
    replace e : l = _ := e
    subst e
    obtain ⟨x1, tt1, e, h⟩ := vI_p id h
    replace e : tt0 = _ := e
    subst e
    obtain ⟨x2, tt2, e, h⟩ := vI_p id h
    replace e : tt1 = _ := e
    subst e
    obtain ⟨x3, tt3, e, h⟩ := vI_p id h
    replace e : tt2 = _ := e
    subst e
    obtain ⟨x4, tt4, e, h⟩ := vI_p id h
    replace e : tt3 = _ := e
    subst e
    obtain ⟨x5, tt5, e, h⟩ := vI_p id h
    replace e : tt4 = _ := e
    subst e
    obtain ⟨x6, tt6, e, h⟩ := vI_p id h
    replace e : tt5 = _ := e
    subst e
    obtain ⟨e, h⟩ := vE_p id h
    replace e : tt6 = [] := e
    subst e
    exact w_X11_linesFrom_210 (J := fun c l M => PW_X11_linesFrom X al n (fun v M2 => v = (some (.int r.1)) ∧ M2 = r.2) c l M) (R := fun v M => (v, M) = r) (fun _ _ _ h => h) (fun v M h => by cases h; exact ⟨rfl, rfl⟩) hc_X11_linesFrom ((n_X11_linesFrom_210 (lpP (fun (s : Sg) (r : Int32 × Mem) => PW_X11_linesFrom X al n (fun v M2 => v = (some (.int r.1)) ∧ M2 = r.2) s.1 s.2.1 s.2.2) r) (fun c l M => some (.inl (c, l, M))) (fun v M => some (.inr (v, M))) none cl n a0 x1 x2 x3 x4 x5 x6 M).mp h)
  · exact h.elim

noncomputable def F_X11_linesFrom (cl : Nat → List Value → Mem → Option (Int32 × Mem)) (n k : Nat) (l : List Value) (M : Mem) : Option (Int32 × Mem) := if k = 0 then vR l none (fun a0 t => vI t none (fun x1 t => vE t none (b_X11_linesFrom cl n a0 x1 M))) else none
noncomputable def r_X11_linesFrom : Nat → Nat → List Value → Mem → Option (Int32 × Mem)
  | 0 => F_X11_linesFrom (fun _ _ _ => none) 0
  | n + 1 => F_X11_linesFrom (r_X11_linesFrom n) (n + 1)
noncomputable abbrev f_X11_linesFrom (n : Nat) (a0 : Nat) (x1 : Int32) (M : Mem) : Option (Int32 × Mem) := r_X11_linesFrom n 0 [.ref a0, .int x1] M
set_option maxHeartbeats 4000000 in
set_option maxRecDepth 100000 in
theorem sr_X11_linesFrom {X : Nat × (Nat → Int32)} {al : Bool} : ∀ n : Nat, (∀ {a0 : Nat} {x1 : Int32} {M : Mem} {v : Int32} {M1 : Mem}, f_X11_linesFrom n a0 x1 M = some (v, M1) → AE yX11_linesFrom cX11_linesFrom 8 (some .int) al n X [.ref a0, .int x1] M (some (.int v)) M1) := by
  intro n
  induction n with
  | zero => exact (fun h => sb_X11_linesFrom (cl := fun _ _ _ => none) (fun h => by cases h) h)
  | succ n ih => exact (fun h => sb_X11_linesFrom (cl := r_X11_linesFrom n) (fun h => ⟨n, rfl, ih h⟩) h)
theorem s_X11_linesFrom {X : Nat × (Nat → Int32)} {al : Bool} {n : Nat} {a0 : Nat} {x1 : Int32} {M : Mem} {v : Int32} {M1 : Mem} (h : f_X11_linesFrom n a0 x1 M = some (v, M1)) : AE yX11_linesFrom cX11_linesFrom 8 (some .int) al n X [.ref a0, .int x1] M (some (.int v)) M1 := (sr_X11_linesFrom n) h
