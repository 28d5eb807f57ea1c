/-! METHODS AS FUNCTIONS, written by wip/gen/shallow.py -/
set_option maxHeartbeats 4000000 in
set_option maxRecDepth 100000 in
noncomputable def T_X1_rightOf_0.{u} {α : Sort u} (R : Int32 → Mem → α) (N : α) (n : Nat) (a0 : Nat) (x1 : Int32) (M : Mem) : α := if x1 < 0 then R (-1) M else gd (fO M a0 1) N (if (M.2.2.1 a0 7) ≤ x1 then R (-1) M else bnd (M.2.2.2.2 a0 2) N (fun r5 => gd (fA M r5 1 x1) N (R (M.2.2.1 r5 (x1.toNatClampNeg)) M)))
set_option maxHeartbeats 4000000 in
set_option maxRecDepth 100000 in
theorem n_X1_rightOf_0.{u, v} {α : Sort u} {β : Sort v} (h : α → β) (R : Int32 → Mem → α) (N : α) (n : Nat) (a0 : Nat) (x1 : Int32) (M : Mem) : h (T_X1_rightOf_0 R N n a0 x1 M) = T_X1_rightOf_0 (fun v M => h (R v M)) (h N) n a0 x1 M := by
  simp only [T_X1_rightOf_0, nat_ite h, nat_gd h, nat_bnd h, nat_bnd2 h]
set_option maxHeartbeats 4000000 in
set_option maxRecDepth 100000 in
theorem w_X1_rightOf_0 {X : Nat × (Nat → Int32)} {al : Bool} {n : Nat} {Q : Option Value → Mem → Prop} {R : Int32 → Mem → Prop} (hR : ∀ v M, R v M → Q (some (.int v)) M) {a0 : Nat} {x1 : Int32} {M : Mem} (h : T_X1_rightOf_0 R False n a0 x1 M) : AW X (RX1, cX1_rightOf, 2, (some .int), false, al, n) 0 0 0 [(0, .ref a0), (1, .int x1)] [] M Q := by
  unfold T_X1_rightOf_0 at h
  refine a_iload_n dX1_rightOf_0 rfl rfl ?_
  refine a_if_lt 21 dX1_rightOf_1 (by decide) (fun c1 => ?_) (fun c1 => ?_)
  · replace h := ite_t c1 h
    refine a_iconst (v := -1) dX1_rightOf_21 (by decide) ?_
    exact a_iret dX1_rightOf_22 rfl (hR _ _ h)
  · replace h := ite_f c1 h
    refine a_iload_n dX1_rightOf_4 rfl rfl ?_
    refine a_aload_n dX1_rightOf_5 rfl rfl ?_
    obtain ⟨⟨ga2, gs3⟩, h⟩ := gd_t h
    refine a_get (v := .int (M.2.2.1 a0 7)) dX1_rightOf_6 fl_1_38 ga2 gs3 rfl ?_
    refine a_icmp_ge 21 dX1_rightOf_9 (by decide) (fun c4 => ?_) (fun c4 => ?_)
    · replace h := ite_t c4 h
      refine a_iconst (v := -1) dX1_rightOf_21 (by decide) ?_
      exact a_iret dX1_rightOf_22 rfl (hR _ _ h)
    · replace h := ite_f c4 h
      refine a_aload_n dX1_rightOf_12 rfl rfl ?_
      obtain ⟨r5, e6, h⟩ := bnd_t h
      refine a_get (v := .ref r5) dX1_rightOf_13 fl_1_18 ga2 gs3 (gvR e6 rfl) ?_
      refine a_iload_n dX1_rightOf_16 rfl rfl ?_
      obtain ⟨⟨ga7, gn8, gs9, gi10⟩, h⟩ := gd_t h
      refine a_iaload dX1_rightOf_17 ga7 gs9 gi10 ?_
      refine a_goto 22 dX1_rightOf_18 (by decide) ?_
      exact a_iret dX1_rightOf_22 rfl (hR _ _ h)
noncomputable def b_X1_rightOf (n : Nat) (a0 : Nat) (x1 : Int32) (M : Mem) : Option (Int32 × Mem) := T_X1_rightOf_0 (fun v M => some (v, M)) none n a0 x1 M
set_option maxHeartbeats 4000000 in
set_option maxRecDepth 100000 in
theorem sb_X1_rightOf {X : Nat × (Nat → Int32)} {al : Bool} {n : Nat} {a0 : Nat} {x1 : Int32} {M : Mem} {v : Int32} {M1 : Mem} (h : b_X1_rightOf n a0 x1 M = some (v, M1)) : AE yX1_rightOf cX1_rightOf 2 (some .int) al n X [.ref a0, .int x1] M (some (.int v)) M1 := by
  refine AM.of false (by decide +kernel) (by intro h; cases h) (Nat.le_of_ble_eq_true rfl) ?_
  have h2 : T_X1_rightOf_0 (fun v2 M2 => some (v2, M2) = some (v, M1)) (none = some (v, M1)) n a0 x1 M := (n_X1_rightOf_0 (fun o => o = some (v, M1)) (fun v M => some (v, M)) none n a0 x1 M).mp h
  have h3 : ((none : Option (Int32 × Mem)) = some (v, M1)) = False := eq_false (by intro q; cases q)
  rw [h3] at h2
  exact w_X1_rightOf_0 (fun v2 M2 h => by cases h; exact ⟨rfl, rfl⟩) h2

noncomputable abbrev f_X1_rightOf := b_X1_rightOf
theorem s_X1_rightOf {X : Nat × (Nat → Int32)} {al : Bool} {n : Nat} {a0 : Nat} {x1 : Int32} {M : Mem} {v : Int32} {M1 : Mem} (h : f_X1_rightOf n a0 x1 M = some (v, M1)) : AE yX1_rightOf cX1_rightOf 2 (some .int) al n X [.ref a0, .int x1] M (some (.int v)) M1 := sb_X1_rightOf h
set_option maxHeartbeats 4000000 in
set_option maxRecDepth 100000 in
noncomputable def T_X2_formulaOf_0.{u} {α : Sort u} (R : Int32 → Mem → α) (N : α) (n : Nat) (a0 : Nat) (x1 : Int32) (M : Mem) : α := if x1 < 0 then R (-1) M else gd (fO M a0 2) N (if (M.2.2.1 a0 3) ≤ x1 then R (-1) M else if 6 ≤ x1 then R (-1) M else bnd (M.2.2.2.2 a0 1) N (fun r6 => gd (fA M r6 1 x1) N (R (M.2.2.1 r6 (x1.toNatClampNeg)) M)))
set_option maxHeartbeats 4000000 in
set_option maxRecDepth 100000 in
theorem n_X2_formulaOf_0.{u, v} {α : Sort u} {β : Sort v} (h : α → β) (R : Int32 → Mem → α) (N : α) (n : Nat) (a0 : Nat) (x1 : Int32) (M : Mem) : h (T_X2_formulaOf_0 R N n a0 x1 M) = T_X2_formulaOf_0 (fun v M => h (R v M)) (h N) n a0 x1 M := by
  simp only [T_X2_formulaOf_0, nat_ite h, nat_gd h, nat_bnd h, nat_bnd2 h]
set_option maxHeartbeats 4000000 in
set_option maxRecDepth 100000 in
theorem w_X2_formulaOf_0 {X : Nat × (Nat → Int32)} {al : Bool} {n : Nat} {Q : Option Value → Mem → Prop} {R : Int32 → Mem → Prop} (hR : ∀ v M, R v M → Q (some (.int v)) M) {a0 : Nat} {x1 : Int32} {M : Mem} (h : T_X2_formulaOf_0 R False n a0 x1 M) : AW X (RX2, cX2_formulaOf, 2, (some .int), false, al, n) 0 0 0 [(0, .ref a0), (1, .int x1)] [] M Q := by
  unfold T_X2_formulaOf_0 at h
  refine a_iload_n dX2_formulaOf_0 rfl rfl ?_
  refine a_if_lt 27 dX2_formulaOf_1 (by decide) (fun c1 => ?_) (fun c1 => ?_)
  · replace h := ite_t c1 h
    refine a_iconst (v := -1) dX2_formulaOf_27 (by decide) ?_
    exact a_iret dX2_formulaOf_28 rfl (hR _ _ h)
  · replace h := ite_f c1 h
    refine a_iload_n dX2_formulaOf_4 rfl rfl ?_
    refine a_aload_n dX2_formulaOf_5 rfl rfl ?_
    obtain ⟨⟨ga2, gs3⟩, h⟩ := gd_t h
    refine a_get (v := .int (M.2.2.1 a0 3)) dX2_formulaOf_6 fl_2_21 ga2 gs3 rfl ?_
    refine a_icmp_ge 27 dX2_formulaOf_9 (by decide) (fun c4 => ?_) (fun c4 => ?_)
    · replace h := ite_t c4 h
      refine a_iconst (v := -1) dX2_formulaOf_27 (by decide) ?_
      exact a_iret dX2_formulaOf_28 rfl (hR _ _ h)
    · replace h := ite_f c4 h
      refine a_iload_n dX2_formulaOf_12 rfl rfl ?_
      refine a_bipush (v := 6) dX2_formulaOf_13 (by decide) ?_
      refine a_icmp_ge 27 dX2_formulaOf_15 (by decide) (fun c5 => ?_) (fun c5 => ?_)
      · replace h := ite_t c5 h
        refine a_iconst (v := -1) dX2_formulaOf_27 (by decide) ?_
        exact a_iret dX2_formulaOf_28 rfl (hR _ _ h)
      · replace h := ite_f c5 h
        refine a_aload_n dX2_formulaOf_18 rfl rfl ?_
        obtain ⟨r6, e7, h⟩ := bnd_t h
        refine a_get (v := .ref r6) dX2_formulaOf_19 fl_2_15 ga2 gs3 (gvR e7 rfl) ?_
        refine a_iload_n dX2_formulaOf_22 rfl rfl ?_
        obtain ⟨⟨ga8, gn9, gs10, gi11⟩, h⟩ := gd_t h
        refine a_iaload dX2_formulaOf_23 ga8 gs10 gi11 ?_
        refine a_goto 28 dX2_formulaOf_24 (by decide) ?_
        exact a_iret dX2_formulaOf_28 rfl (hR _ _ h)
noncomputable def b_X2_formulaOf (n : Nat) (a0 : Nat) (x1 : Int32) (M : Mem) : Option (Int32 × Mem) := T_X2_formulaOf_0 (fun v M => some (v, M)) none n a0 x1 M
set_option maxHeartbeats 4000000 in
set_option maxRecDepth 100000 in
theorem sb_X2_formulaOf {X : Nat × (Nat → Int32)} {al : Bool} {n : Nat} {a0 : Nat} {x1 : Int32} {M : Mem} {v : Int32} {M1 : Mem} (h : b_X2_formulaOf n a0 x1 M = some (v, M1)) : AE yX2_formulaOf cX2_formulaOf 2 (some .int) al n X [.ref a0, .int x1] M (some (.int v)) M1 := by
  refine AM.of false (by decide +kernel) (by intro h; cases h) (Nat.le_of_ble_eq_true rfl) ?_
  have h2 : T_X2_formulaOf_0 (fun v2 M2 => some (v2, M2) = some (v, M1)) (none = some (v, M1)) n a0 x1 M := (n_X2_formulaOf_0 (fun o => o = some (v, M1)) (fun v M => some (v, M)) none n a0 x1 M).mp h
  have h3 : ((none : Option (Int32 × Mem)) = some (v, M1)) = False := eq_false (by intro q; cases q)
  rw [h3] at h2
  exact w_X2_formulaOf_0 (fun v2 M2 h => by cases h; exact ⟨rfl, rfl⟩) h2

noncomputable abbrev f_X2_formulaOf := b_X2_formulaOf
theorem s_X2_formulaOf {X : Nat × (Nat → Int32)} {al : Bool} {n : Nat} {a0 : Nat} {x1 : Int32} {M : Mem} {v : Int32} {M1 : Mem} (h : f_X2_formulaOf n a0 x1 M = some (v, M1)) : AE yX2_formulaOf cX2_formulaOf 2 (some .int) al n X [.ref a0, .int x1] M (some (.int v)) M1 := sb_X2_formulaOf h
set_option maxHeartbeats 4000000 in
set_option maxRecDepth 100000 in
noncomputable def T_X3_takenOn_0.{u} {α : Sort u} (R : Int32 → Mem → α) (N : α) (n : Nat) (a0 : Nat) (x1 : Int32) (M : Mem) : α := gd (fO M a0 3) N (bnd2 (cal n (fun n => f_X3_parentOf n a0 x1 M)) N (fun v3 M4 => gd (fO M4 a0 3) N (bnd (M4.2.2.2.2 a0 2) N (fun r10 => gd (fO M4 r10 9) N (bnd2 (cal n (fun n => f_X9_opAt n r10 v3 M4)) N (fun v14 M15 => if v14 = 2 then gd (fO M15 a0 3) N (bnd (M15.2.2.2.2 a0 2) N (fun r59 => gd (fO M15 r59 9) N (bnd2 (cal n (fun n => f_X9_argAt n r59 v3 M15)) N (fun v63 M64 => R v63 M64)))) else gd (fO M15 a0 3) N (bnd2 (cal n (fun n => f_X3_typeOf n a0 (v3 + 1) M15)) N (fun v22 M23 => gd (fO M23 a0 3) N (bnd2 (cal n (fun n => f_X3_rankOf n a0 x1 M23)) N (fun v29 M30 => if v29 = 1 then gd (fO M30 a0 3) N (bnd (M30.2.2.2.2 a0 0) N (fun r48 => gd (fO M30 r48 1) N (bnd2 (cal n (fun n => f_X1_leftOf n r48 v22 M30)) N (fun v52 M53 => R v52 M53)))) else gd (fO M30 a0 3) N (bnd (M30.2.2.2.2 a0 0) N (fun r37 => gd (fO M30 r37 1) N (bnd2 (cal n (fun n => f_X1_rightOf n r37 v22 M30)) N (fun v41 M42 => R v41 M42))))))))))))))
set_option maxHeartbeats 4000000 in
set_option maxRecDepth 100000 in
theorem n_X3_takenOn_0.{u, v} {α : Sort u} {β : Sort v} (h : α → β) (R : Int32 → Mem → α) (N : α) (n : Nat) (a0 : Nat) (x1 : Int32) (M : Mem) : h (T_X3_takenOn_0 R N n a0 x1 M) = T_X3_takenOn_0 (fun v M => h (R v M)) (h N) n a0 x1 M := by
  simp only [T_X3_takenOn_0, nat_ite h, nat_gd h, nat_bnd h, nat_bnd2 h]
set_option maxHeartbeats 4000000 in
set_option maxRecDepth 100000 in
theorem w_X3_takenOn_0 {X : Nat × (Nat → Int32)} {al : Bool} {n : Nat} {Q : Option Value → Mem → Prop} {R : Int32 → Mem → Prop} (hR : ∀ v M, R v M → Q (some (.int v)) M) {a0 : Nat} {x1 : Int32} {M : Mem} (h : T_X3_takenOn_0 R False n a0 x1 M) : AW X (RX3, cX3_takenOn, 4, (some .int), false, al, n) 0 0 0 [(0, .ref a0), (1, .int x1)] [] M Q := by
  unfold T_X3_takenOn_0 at h
  refine a_aload_n dX3_takenOn_0 rfl rfl ?_
  refine a_iload_n dX3_takenOn_1 rfl rfl ?_
  obtain ⟨⟨ga1, gs2⟩, h⟩ := gd_t h
  obtain ⟨v3, M4, e5, h⟩ := bnd2_t h
  obtain ⟨n6, en7, e5⟩ := cal_t e5
  refine e_callV (As := [.int x1]) (st := []) (a := a0) (ci := 3) false dX3_takenOn_2 mw_X3_parentOf (Or.inl ⟨rfl, ml_X3_101⟩) im_X3_parentOf se_X3_parentOf (by decide) ga1 gs2 rfl (Nat.le_of_ble_eq_true rfl) en7 (s_X3_parentOf e5) ?_
  refine a_istore_n dX3_takenOn_5 rfl (Nat.le_of_ble_eq_true rfl) (lv2 := [(2, .int v3), (0, .ref a0), (1, .int x1)]) rfl ?_
  refine a_aload_n dX3_takenOn_6 rfl rfl ?_
  obtain ⟨⟨ga8, gs9⟩, h⟩ := gd_t h
  obtain ⟨r10, e11, h⟩ := bnd_t h
  refine a_get (v := .ref r10) dX3_takenOn_7 fl_3_50 ga8 gs9 (gvR e11 rfl) ?_
  refine a_iload_n dX3_takenOn_10 rfl rfl ?_
  obtain ⟨⟨ga12, gs13⟩, h⟩ := gd_t h
  obtain ⟨v14, M15, e16, h⟩ := bnd2_t h
  obtain ⟨n17, en18, e16⟩ := cal_t e16
  refine e_callV (As := [.int v3]) (st := []) (a := r10) (ci := 9) false dX3_takenOn_11 mw_X9_opAt (Or.inl ⟨rfl, ml_X3_58⟩) im_X9_opAt se_X9_opAt (by decide) ga12 gs13 rfl (Nat.le_of_ble_eq_true rfl) en18 (s_X9_opAt e16) ?_
  refine a_iconst (v := 2) dX3_takenOn_14 (by decide) ?_
  refine a_icmp_ne 27 dX3_takenOn_15 (by decide) (fun c19 => ?_) (fun c19 => ?_)
  · replace h := ite_f c19 h
    refine a_aload_n dX3_takenOn_27 rfl rfl ?_
    refine a_iload_n dX3_takenOn_28 rfl rfl ?_
    refine a_iconst (v := 1) dX3_takenOn_29 (by decide) ?_
    refine a_iadd dX3_takenOn_30 ?_
    obtain ⟨⟨ga20, gs21⟩, h⟩ := gd_t h
    obtain ⟨v22, M23, e24, h⟩ := bnd2_t h
    obtain ⟨n25, en26, e24⟩ := cal_t e24
    refine e_callV (As := [.int (v3 + 1)]) (st := []) (a := a0) (ci := 3) false dX3_takenOn_31 mw_X3_typeOf (Or.inl ⟨rfl, ml_X3_113⟩) im_X3_typeOf se_X3_typeOf (by decide) ga20 gs21 rfl (Nat.le_of_ble_eq_true rfl) en26 (s_X3_typeOf e24) ?_
    refine a_istore_n dX3_takenOn_34 rfl (Nat.le_of_ble_eq_true rfl) (lv2 := [(3, .int v22), (2, .int v3), (0, .ref a0), (1, .int x1)]) rfl ?_
    refine a_aload_n dX3_takenOn_35 rfl rfl ?_
    refine a_iload_n dX3_takenOn_36 rfl rfl ?_
    obtain ⟨⟨ga27, gs28⟩, h⟩ := gd_t h
    obtain ⟨v29, M30, e31, h⟩ := bnd2_t h
    obtain ⟨n32, en33, e31⟩ := cal_t e31
    refine e_callV (As := [.int x1]) (st := []) (a := a0) (ci := 3) false dX3_takenOn_37 mw_X3_rankOf (Or.inl ⟨rfl, ml_X3_104⟩) im_X3_rankOf se_X3_rankOf (by decide) ga27 gs28 rfl (Nat.le_of_ble_eq_true rfl) en33 (s_X3_rankOf e31) ?_
    refine a_iconst (v := 1) dX3_takenOn_40 (by decide) ?_
    refine a_icmp_ne 55 dX3_takenOn_41 (by decide) (fun c34 => ?_) (fun c34 => ?_)
    · replace h := ite_f c34 h
      refine a_aload_n dX3_takenOn_55 rfl rfl ?_
      obtain ⟨⟨ga35, gs36⟩, h⟩ := gd_t h
      obtain ⟨r37, e38, h⟩ := bnd_t h
      refine a_get (v := .ref r37) dX3_takenOn_56 fl_3_39 ga35 gs36 (gvR e38 rfl) ?_
      refine a_iload_n dX3_takenOn_59 rfl rfl ?_
      obtain ⟨⟨ga39, gs40⟩, h⟩ := gd_t h
      obtain ⟨v41, M42, e43, h⟩ := bnd2_t h
      obtain ⟨n44, en45, e43⟩ := cal_t e43
      refine e_callV (As := [.int v22]) (st := []) (a := r37) (ci := 1) false dX3_takenOn_60 mw_X1_rightOf (Or.inl ⟨rfl, ml_X3_121⟩) im_X1_rightOf se_X1_rightOf (by decide) ga39 gs40 rfl (Nat.le_of_ble_eq_true rfl) en45 (s_X1_rightOf e43) ?_
      exact a_iret dX3_takenOn_63 rfl (hR _ _ h)
    · replace h := ite_t c34 h
      refine a_aload_n dX3_takenOn_44 rfl rfl ?_
      obtain ⟨⟨ga46, gs47⟩, h⟩ := gd_t h
      obtain ⟨r48, e49, h⟩ := bnd_t h
      refine a_get (v := .ref r48) dX3_takenOn_45 fl_3_39 ga46 gs47 (gvR e49 rfl) ?_
      refine a_iload_n dX3_takenOn_48 rfl rfl ?_
      obtain ⟨⟨ga50, gs51⟩, h⟩ := gd_t h
      obtain ⟨v52, M53, e54, h⟩ := bnd2_t h
      obtain ⟨n55, en56, e54⟩ := cal_t e54
      refine e_callV (As := [.int v22]) (st := []) (a := r48) (ci := 1) false dX3_takenOn_49 mw_X1_leftOf (Or.inl ⟨rfl, ml_X3_116⟩) im_X1_leftOf se_X1_leftOf (by decide) ga50 gs51 rfl (Nat.le_of_ble_eq_true rfl) en56 (s_X1_leftOf e54) ?_
      refine a_goto 63 dX3_takenOn_52 (by decide) ?_
      exact a_iret dX3_takenOn_63 rfl (hR _ _ h)
  · replace h := ite_t c19 h
    refine a_aload_n dX3_takenOn_18 rfl rfl ?_
    obtain ⟨⟨ga57, gs58⟩, h⟩ := gd_t h
    obtain ⟨r59, e60, h⟩ := bnd_t h
    refine a_get (v := .ref r59) dX3_takenOn_19 fl_3_50 ga57 gs58 (gvR e60 rfl) ?_
    refine a_iload_n dX3_takenOn_22 rfl rfl ?_
    obtain ⟨⟨ga61, gs62⟩, h⟩ := gd_t h
    obtain ⟨v63, M64, e65, h⟩ := bnd2_t h
    obtain ⟨n66, en67, e65⟩ := cal_t e65
    refine e_callV (As := [.int v3]) (st := []) (a := r59) (ci := 9) false dX3_takenOn_23 mw_X9_argAt (Or.inl ⟨rfl, ml_X3_94⟩) im_X9_argAt se_X9_argAt (by decide) ga61 gs62 rfl (Nat.le_of_ble_eq_true rfl) en67 (s_X9_argAt e65) ?_
    exact a_iret dX3_takenOn_26 rfl (hR _ _ h)
noncomputable def b_X3_takenOn (n : Nat) (a0 : Nat) (x1 : Int32) (M : Mem) : Option (Int32 × Mem) := T_X3_takenOn_0 (fun v M => some (v, M)) none n a0 x1 M
set_option maxHeartbeats 4000000 in
set_option maxRecDepth 100000 in
theorem sb_X3_takenOn {X : Nat × (Nat → Int32)} {al : Bool} {n : Nat} {a0 : Nat} {x1 : Int32} {M : Mem} {v : Int32} {M1 : Mem} (h : b_X3_takenOn n a0 x1 M = some (v, M1)) : AE yX3_takenOn cX3_takenOn 4 (some .int) al n X [.ref a0, .int x1] M (some (.int v)) M1 := by
  refine AM.of false (by decide +kernel) (by intro h; cases h) (Nat.le_of_ble_eq_true rfl) ?_
  have h2 : T_X3_takenOn_0 (fun v2 M2 => some (v2, M2) = some (v, M1)) (none = some (v, M1)) n a0 x1 M := (n_X3_takenOn_0 (fun o => o = some (v, M1)) (fun v M => some (v, M)) none n a0 x1 M).mp h
  have h3 : ((none : Option (Int32 × Mem)) = some (v, M1)) = False := eq_false (by intro q; cases q)
  rw [h3] at h2
  exact w_X3_takenOn_0 (fun v2 M2 h => by cases h; exact ⟨rfl, rfl⟩) h2

noncomputable abbrev f_X3_takenOn := b_X3_takenOn
theorem s_X3_takenOn {X : Nat × (Nat → Int32)} {al : Bool} {n : Nat} {a0 : Nat} {x1 : Int32} {M : Mem} {v : Int32} {M1 : Mem} (h : f_X3_takenOn n a0 x1 M = some (v, M1)) : AE yX3_takenOn cX3_takenOn 4 (some .int) al n X [.ref a0, .int x1] M (some (.int v)) M1 := sb_X3_takenOn h
set_option maxHeartbeats 4000000 in
set_option maxRecDepth 100000 in
noncomputable def T_X3_provenBy_0.{u} {α : Sort u} (R : Int32 → Mem → α) (N : α) (n : Nat) (a0 : Nat) (x1 : Int32) (M : Mem) : α := gd (fO M a0 3) N (bnd (M.2.2.2.2 a0 2) N (fun r3 => gd (fO M r3 9) N (bnd2 (cal n (fun n => f_X9_argAt n r3 x1 M)) N (fun v7 M8 => gd (fO M8 a0 3) N (bnd2 (cal n (fun n => f_X3_typeOf n a0 (x1 + 1) M8)) N (fun v14 M15 => gd (fO M15 a0 3) N (bnd2 (cal n (fun n => f_X3_endOf n a0 (x1 + 1) M15)) N (fun v21 M22 => gd (fO M22 a0 3) N (bnd2 (cal n (fun n => f_X3_typeOf n a0 v21 M22)) N (fun v28 M29 => gd (fO M29 a0 3) N (bnd (M29.2.2.2.2 a0 2) N (fun r35 => gd (fO M29 r35 9) N (bnd2 (cal n (fun n => f_X9_opAt n r35 x1 M29)) N (fun v39 M40 => if v39 = 2 then gd (fO M40 a0 3) N (bnd (M40.2.2.2.2 a0 0) N (fun r47 => gd (fO M40 r47 1) N (bnd2 (cal n (fun n => f_X1_make n r47 9 v7 v14 M40)) N (fun v51 M52 => R v51 M52)))) else if v39 = 3 then gd (fO M40 a0 3) N (bnd (M40.2.2.2.2 a0 0) N (fun r59 => gd (fO M40 r59 1) N (bnd2 (cal n (fun n => f_X1_rightOf n r59 v14 M40)) N (fun v63 M64 => R v63 M64)))) else if v39 = 4 then gd (fO M40 a0 3) N (bnd (M40.2.2.2.2 a0 0) N (fun r71 => gd (fO M40 r71 1) N (bnd2 (cal n (fun n => f_X1_make n r71 10 v14 v28 M40)) N (fun v75 M76 => R v75 M76)))) else if v39 = 5 then gd (fO M40 a0 3) N (bnd (M40.2.2.2.2 a0 0) N (fun r83 => gd (fO M40 r83 1) N (bnd2 (cal n (fun n => f_X1_leftOf n r83 v14 M40)) N (fun v87 M88 => R v87 M88)))) else if v39 = 6 then gd (fO M40 a0 3) N (bnd (M40.2.2.2.2 a0 0) N (fun r95 => gd (fO M40 r95 1) N (bnd2 (cal n (fun n => f_X1_rightOf n r95 v14 M40)) N (fun v99 M100 => R v99 M100)))) else if v39 = 7 then gd (fO M40 a0 3) N (bnd (M40.2.2.2.2 a0 0) N (fun r107 => gd (fO M40 r107 1) N (bnd2 (cal n (fun n => f_X1_make n r107 11 v14 v7 M40)) N (fun v111 M112 => R v111 M112)))) else if v39 = 8 then gd (fO M40 a0 3) N (bnd (M40.2.2.2.2 a0 0) N (fun r119 => gd (fO M40 r119 1) N (bnd2 (cal n (fun n => f_X1_make n r119 11 v7 v14 M40)) N (fun v123 M124 => R v123 M124)))) else if v39 = 9 then R v28 M40 else if v39 = 10 then R v7 M40 else if 0 ≤ v7 then gd (fO M40 a0 3) N (bnd (M40.2.2.2.2 a0 8) N (fun r133 => bnd2 (cal n (fun n => f_X10_at n r133 x1 M40)) N (fun v135 M136 => gd (fO M136 a0 3) N (bnd2 (cal n (fun n => f_X3_takenOn n a0 v135 M136)) N (fun v142 M143 => R v142 M143))))) else gd (fO M40 a0 3) N (bnd (M40.2.2.2.2 a0 1) N (fun r149 => gd (fO M40 r149 2) N (bnd2 (cal n (fun n => f_X2_formulaOf n r149 ((-1) - v7) M40)) N (fun v153 M154 => R v153 M154))))))))))))))))))
set_option maxHeartbeats 4000000 in
set_option maxRecDepth 100000 in
theorem n_X3_provenBy_0.{u, v} {α : Sort u} {β : Sort v} (h : α → β) (R : Int32 → Mem → α) (N : α) (n : Nat) (a0 : Nat) (x1 : Int32) (M : Mem) : h (T_X3_provenBy_0 R N n a0 x1 M) = T_X3_provenBy_0 (fun v M => h (R v M)) (h N) n a0 x1 M := by
  simp only [T_X3_provenBy_0, nat_ite h, nat_gd h, nat_bnd h, nat_bnd2 h]
set_option maxHeartbeats 4000000 in
set_option maxRecDepth 100000 in
theorem w_X3_provenBy_0 {X : Nat × (Nat → Int32)} {al : Bool} {n : Nat} {Q : Option Value → Mem → Prop} {R : Int32 → Mem → Prop} (hR : ∀ v M, R v M → Q (some (.int v)) M) {a0 : Nat} {x1 : Int32} {M : Mem} (h : T_X3_provenBy_0 R False n a0 x1 M) : AW X (RX3, cX3_provenBy, 5, (some .int), false, al, n) 0 0 0 [(0, .ref a0), (1, .int x1)] [] M Q := by
  unfold T_X3_provenBy_0 at h
  refine a_aload_n dX3_provenBy_0 rfl rfl ?_
  obtain ⟨⟨ga1, gs2⟩, h⟩ := gd_t h
  obtain ⟨r3, e4, h⟩ := bnd_t h
  refine a_get (v := .ref r3) dX3_provenBy_1 fl_3_50 ga1 gs2 (gvR e4 rfl) ?_
  refine a_iload_n dX3_provenBy_4 rfl rfl ?_
  obtain ⟨⟨ga5, gs6⟩, h⟩ := gd_t h
  obtain ⟨v7, M8, e9, h⟩ := bnd2_t h
  obtain ⟨n10, en11, e9⟩ := cal_t e9
  refine e_callV (As := [.int x1]) (st := []) (a := r3) (ci := 9) false dX3_provenBy_5 mw_X9_argAt (Or.inl ⟨rfl, ml_X3_94⟩) im_X9_argAt se_X9_argAt (by decide) ga5 gs6 rfl (Nat.le_of_ble_eq_true rfl) en11 (s_X9_argAt e9) ?_
  refine a_istore_n dX3_provenBy_8 rfl (Nat.le_of_ble_eq_true rfl) (lv2 := [(2, .int v7), (0, .ref a0), (1, .int x1)]) rfl ?_
  refine a_aload_n dX3_provenBy_9 rfl rfl ?_
  refine a_iload_n dX3_provenBy_10 rfl rfl ?_
  refine a_iconst (v := 1) dX3_provenBy_11 (by decide) ?_
  refine a_iadd dX3_provenBy_12 ?_
  obtain ⟨⟨ga12, gs13⟩, h⟩ := gd_t h
  obtain ⟨v14, M15, e16, h⟩ := bnd2_t h
  obtain ⟨n17, en18, e16⟩ := cal_t e16
  refine e_callV (As := [.int (x1 + 1)]) (st := []) (a := a0) (ci := 3) false dX3_provenBy_13 mw_X3_typeOf (Or.inl ⟨rfl, ml_X3_113⟩) im_X3_typeOf se_X3_typeOf (by decide) ga12 gs13 rfl (Nat.le_of_ble_eq_true rfl) en18 (s_X3_typeOf e16) ?_
  refine a_istore_n dX3_provenBy_16 rfl (Nat.le_of_ble_eq_true rfl) (lv2 := [(3, .int v14), (2, .int v7), (0, .ref a0), (1, .int x1)]) rfl ?_
  refine a_aload_n dX3_provenBy_17 rfl rfl ?_
  refine a_aload_n dX3_provenBy_18 rfl rfl ?_
  refine a_iload_n dX3_provenBy_19 rfl rfl ?_
  refine a_iconst (v := 1) dX3_provenBy_20 (by decide) ?_
  refine a_iadd dX3_provenBy_21 ?_
  obtain ⟨⟨ga19, gs20⟩, h⟩ := gd_t h
  obtain ⟨v21, M22, e23, h⟩ := bnd2_t h
  obtain ⟨n24, en25, e23⟩ := cal_t e23
  refine e_callV (As := [.int (x1 + 1)]) (st := [.ref a0]) (a := a0) (ci := 3) false dX3_provenBy_22 mw_X3_endOf (Or.inl ⟨rfl, ml_X3_65⟩) im_X3_endOf se_X3_endOf (by decide) ga19 gs20 rfl (Nat.le_of_ble_eq_true rfl) en25 (s_X3_endOf e23) ?_
  obtain ⟨⟨ga26, gs27⟩, h⟩ := gd_t h
  obtain ⟨v28, M29, e30, h⟩ := bnd2_t h
  obtain ⟨n31, en32, e30⟩ := cal_t e30
  refine e_callV (As := [.int v21]) (st := []) (a := a0) (ci := 3) false dX3_provenBy_25 mw_X3_typeOf (Or.inl ⟨rfl, ml_X3_113⟩) im_X3_typeOf se_X3_typeOf (by decide) ga26 gs27 rfl (Nat.le_of_ble_eq_true rfl) en32 (s_X3_typeOf e30) ?_
  refine a_istore dX3_provenBy_28 (Nat.le_of_ble_eq_true rfl) (lv2 := [(4, .int v28), (3, .int v14), (2, .int v7), (0, .ref a0), (1, .int x1)]) rfl ?_
  refine a_aload_n dX3_provenBy_30 rfl rfl ?_
  obtain ⟨⟨ga33, gs34⟩, h⟩ := gd_t h
  obtain ⟨r35, e36, h⟩ := bnd_t h
  refine a_get (v := .ref r35) dX3_provenBy_31 fl_3_50 ga33 gs34 (gvR e36 rfl) ?_
  refine a_iload_n dX3_provenBy_34 rfl rfl ?_
  obtain ⟨⟨ga37, gs38⟩, h⟩ := gd_t h
  obtain ⟨v39, M40, e41, h⟩ := bnd2_t h
  obtain ⟨n42, en43, e41⟩ := cal_t e41
  refine e_callV (As := [.int x1]) (st := []) (a := r35) (ci := 9) false dX3_provenBy_35 mw_X9_opAt (Or.inl ⟨rfl, ml_X3_58⟩) im_X9_opAt se_X9_opAt (by decide) ga37 gs38 rfl (Nat.le_of_ble_eq_true rfl) en43 (s_X9_opAt e41) ?_
  by_cases c44 : v39 = 2
  · replace h := ite_t c44 h
    refine a_tableIn (off := 50) 88 dX3_provenBy_38 (by rw [c44]; decide) (by rw [c44]; decide) (by rw [c44]; rfl) (by decide) ?_
    refine a_aload_n dX3_provenBy_88 rfl rfl ?_
    obtain ⟨⟨ga45, gs46⟩, h⟩ := gd_t h
    obtain ⟨r47, e48, h⟩ := bnd_t h
    refine a_get (v := .ref r47) dX3_provenBy_89 fl_3_39 ga45 gs46 (gvR e48 rfl) ?_
    refine a_bipush (v := 9) dX3_provenBy_92 (by decide) ?_
    refine a_iload_n dX3_provenBy_94 rfl rfl ?_
    refine a_iload_n dX3_provenBy_95 rfl rfl ?_
    obtain ⟨⟨ga49, gs50⟩, h⟩ := gd_t h
    obtain ⟨v51, M52, e53, h⟩ := bnd2_t h
    obtain ⟨n54, en55, e53⟩ := cal_t e53
    refine e_callV (As := [.int 9, .int v7, .int v14]) (st := []) (a := r47) (ci := 1) false dX3_provenBy_96 mw_X1_make (Or.inl ⟨rfl, ml_X3_136⟩) im_X1_make se_X1_make (by decide) ga49 gs50 rfl (Nat.le_of_ble_eq_true rfl) en55 (s_X1_make e53) ?_
    exact a_iret dX3_provenBy_99 rfl (hR _ _ h)
  replace h := ite_f c44 h
  by_cases c56 : v39 = 3
  · replace h := ite_t c56 h
    refine a_tableIn (off := 62) 100 dX3_provenBy_38 (by rw [c56]; decide) (by rw [c56]; decide) (by rw [c56]; rfl) (by decide) ?_
    refine a_aload_n dX3_provenBy_100 rfl rfl ?_
    obtain ⟨⟨ga57, gs58⟩, h⟩ := gd_t h
    obtain ⟨r59, e60, h⟩ := bnd_t h
    refine a_get (v := .ref r59) dX3_provenBy_101 fl_3_39 ga57 gs58 (gvR e60 rfl) ?_
    refine a_iload_n dX3_provenBy_104 rfl rfl ?_
    obtain ⟨⟨ga61, gs62⟩, h⟩ := gd_t h
    obtain ⟨v63, M64, e65, h⟩ := bnd2_t h
    obtain ⟨n66, en67, e65⟩ := cal_t e65
    refine e_callV (As := [.int v14]) (st := []) (a := r59) (ci := 1) false dX3_provenBy_105 mw_X1_rightOf (Or.inl ⟨rfl, ml_X3_121⟩) im_X1_rightOf se_X1_rightOf (by decide) ga61 gs62 rfl (Nat.le_of_ble_eq_true rfl) en67 (s_X1_rightOf e65) ?_
    exact a_iret dX3_provenBy_108 rfl (hR _ _ h)
  replace h := ite_f c56 h
  by_cases c68 : v39 = 4
  · replace h := ite_t c68 h
    refine a_tableIn (off := 71) 109 dX3_provenBy_38 (by rw [c68]; decide) (by rw [c68]; decide) (by rw [c68]; rfl) (by decide) ?_
    refine a_aload_n dX3_provenBy_109 rfl rfl ?_
    obtain ⟨⟨ga69, gs70⟩, h⟩ := gd_t h
    obtain ⟨r71, e72, h⟩ := bnd_t h
    refine a_get (v := .ref r71) dX3_provenBy_110 fl_3_39 ga69 gs70 (gvR e72 rfl) ?_
    refine a_bipush (v := 10) dX3_provenBy_113 (by decide) ?_
    refine a_iload_n dX3_provenBy_115 rfl rfl ?_
    refine a_iload dX3_provenBy_116 rfl ?_
    obtain ⟨⟨ga73, gs74⟩, h⟩ := gd_t h
    obtain ⟨v75, M76, e77, h⟩ := bnd2_t h
    obtain ⟨n78, en79, e77⟩ := cal_t e77
    refine e_callV (As := [.int 10, .int v14, .int v28]) (st := []) (a := r71) (ci := 1) false dX3_provenBy_118 mw_X1_make (Or.inl ⟨rfl, ml_X3_136⟩) im_X1_make se_X1_make (by decide) ga73 gs74 rfl (Nat.le_of_ble_eq_true rfl) en79 (s_X1_make e77) ?_
    exact a_iret dX3_provenBy_121 rfl (hR _ _ h)
  replace h := ite_f c68 h
  by_cases c80 : v39 = 5
  · replace h := ite_t c80 h
    refine a_tableIn (off := 84) 122 dX3_provenBy_38 (by rw [c80]; decide) (by rw [c80]; decide) (by rw [c80]; rfl) (by decide) ?_
    refine a_aload_n dX3_provenBy_122 rfl rfl ?_
    obtain ⟨⟨ga81, gs82⟩, h⟩ := gd_t h
    obtain ⟨r83, e84, h⟩ := bnd_t h
    refine a_get (v := .ref r83) dX3_provenBy_123 fl_3_39 ga81 gs82 (gvR e84 rfl) ?_
    refine a_iload_n dX3_provenBy_126 rfl rfl ?_
    obtain ⟨⟨ga85, gs86⟩, h⟩ := gd_t h
    obtain ⟨v87, M88, e89, h⟩ := bnd2_t h
    obtain ⟨n90, en91, e89⟩ := cal_t e89
    refine e_callV (As := [.int v14]) (st := []) (a := r83) (ci := 1) false dX3_provenBy_127 mw_X1_leftOf (Or.inl ⟨rfl, ml_X3_116⟩) im_X1_leftOf se_X1_leftOf (by decide) ga85 gs86 rfl (Nat.le_of_ble_eq_true rfl) en91 (s_X1_leftOf e89) ?_
    exact a_iret dX3_provenBy_130 rfl (hR _ _ h)
  replace h := ite_f c80 h
  by_cases c92 : v39 = 6
  · replace h := ite_t c92 h
    refine a_tableIn (off := 93) 131 dX3_provenBy_38 (by rw [c92]; decide) (by rw [c92]; decide) (by rw [c92]; rfl) (by decide) ?_
    refine a_aload_n dX3_provenBy_131 rfl rfl ?_
    obtain ⟨⟨ga93, gs94⟩, h⟩ := gd_t h
    obtain ⟨r95, e96, h⟩ := bnd_t h
    refine a_get (v := .ref r95) dX3_provenBy_132 fl_3_39 ga93 gs94 (gvR e96 rfl) ?_
    refine a_iload_n dX3_provenBy_135 rfl rfl ?_
    obtain ⟨⟨ga97, gs98⟩, h⟩ := gd_t h
    obtain ⟨v99, M100, e101, h⟩ := bnd2_t h
    obtain ⟨n102, en103, e101⟩ := cal_t e101
    refine e_callV (As := [.int v14]) (st := []) (a := r95) (ci := 1) false dX3_provenBy_136 mw_X1_rightOf (Or.inl ⟨rfl, ml_X3_121⟩) im_X1_rightOf se_X1_rightOf (by decide) ga97 gs98 rfl (Nat.le_of_ble_eq_true rfl) en103 (s_X1_rightOf e101) ?_
    exact a_iret dX3_provenBy_139 rfl (hR _ _ h)
  replace h := ite_f c92 h
  by_cases c104 : v39 = 7
  · replace h := ite_t c104 h
    refine a_tableIn (off := 102) 140 dX3_provenBy_38 (by rw [c104]; decide) (by rw [c104]; decide) (by rw [c104]; rfl) (by decide) ?_
    refine a_aload_n dX3_provenBy_140 rfl rfl ?_
    obtain ⟨⟨ga105, gs106⟩, h⟩ := gd_t h
    obtain ⟨r107, e108, h⟩ := bnd_t h
    refine a_get (v := .ref r107) dX3_provenBy_141 fl_3_39 ga105 gs106 (gvR e108 rfl) ?_
    refine a_bipush (v := 11) dX3_provenBy_144 (by decide) ?_
    refine a_iload_n dX3_provenBy_146 rfl rfl ?_
    refine a_iload_n dX3_provenBy_147 rfl rfl ?_
    obtain ⟨⟨ga109, gs110⟩, h⟩ := gd_t h
    obtain ⟨v111, M112, e113, h⟩ := bnd2_t h
    obtain ⟨n114, en115, e113⟩ := cal_t e113
    refine e_callV (As := [.int 11, .int v14, .int v7]) (st := []) (a := r107) (ci := 1) false dX3_provenBy_148 mw_X1_make (Or.inl ⟨rfl, ml_X3_136⟩) im_X1_make se_X1_make (by decide) ga109 gs110 rfl (Nat.le_of_ble_eq_true rfl) en115 (s_X1_make e113) ?_
    exact a_iret dX3_provenBy_151 rfl (hR _ _ h)
  replace h := ite_f c104 h
  by_cases c116 : v39 = 8
  · replace h := ite_t c116 h
    refine a_tableIn (off := 114) 152 dX3_provenBy_38 (by rw [c116]; decide) (by rw [c116]; decide) (by rw [c116]; rfl) (by decide) ?_
    refine a_aload_n dX3_provenBy_152 rfl rfl ?_
    obtain ⟨⟨ga117, gs118⟩, h⟩ := gd_t h
    obtain ⟨r119, e120, h⟩ := bnd_t h
    refine a_get (v := .ref r119) dX3_provenBy_153 fl_3_39 ga117 gs118 (gvR e120 rfl) ?_
    refine a_bipush (v := 11) dX3_provenBy_156 (by decide) ?_
    refine a_iload_n dX3_provenBy_158 rfl rfl ?_
    refine a_iload_n dX3_provenBy_159 rfl rfl ?_
    obtain ⟨⟨ga121, gs122⟩, h⟩ := gd_t h
    obtain ⟨v123, M124, e125, h⟩ := bnd2_t h
    obtain ⟨n126, en127, e125⟩ := cal_t e125
    refine e_callV (As := [.int 11, .int v7, .int v14]) (st := []) (a := r119) (ci := 1) false dX3_provenBy_160 mw_X1_make (Or.inl ⟨rfl, ml_X3_136⟩) im_X1_make se_X1_make (by decide) ga121 gs122 rfl (Nat.le_of_ble_eq_true rfl) en127 (s_X1_make e125) ?_
    exact a_iret dX3_provenBy_163 rfl (hR _ _ h)
  replace h := ite_f c116 h
  by_cases c128 : v39 = 9
  · replace h := ite_t c128 h
    refine a_tableIn (off := 126) 164 dX3_provenBy_38 (by rw [c128]; decide) (by rw [c128]; decide) (by rw [c128]; rfl) (by decide) ?_
    refine a_iload dX3_provenBy_164 rfl ?_
    exact a_iret dX3_provenBy_166 rfl (hR _ _ h)
  replace h := ite_f c128 h
  by_cases c129 : v39 = 10
  · replace h := ite_t c129 h
    refine a_tableIn (off := 129) 167 dX3_provenBy_38 (by rw [c129]; decide) (by rw [c129]; decide) (by rw [c129]; rfl) (by decide) ?_
    refine a_iload_n dX3_provenBy_167 rfl rfl ?_
    exact a_iret dX3_provenBy_168 rfl (hR _ _ h)
  replace h := ite_f c129 h
  refine a_tableOut 169 dX3_provenBy_38 (by have q0 := ne_toInt (z := 2) c44 rfl; have q1 := ne_toInt (z := 3) c56 rfl; have q2 := ne_toInt (z := 4) c68 rfl; have q3 := ne_toInt (z := 5) c80 rfl; have q4 := ne_toInt (z := 6) c92 rfl; have q5 := ne_toInt (z := 7) c104 rfl; have q6 := ne_toInt (z := 8) c116 rfl; have q7 := ne_toInt (z := 9) c128 rfl; have q8 := ne_toInt (z := 10) c129 rfl; omega) (by decide) ?_
  refine a_iload_n dX3_provenBy_169 rfl rfl ?_
  refine a_if_ge 186 dX3_provenBy_170 (by decide) (fun c130 => ?_) (fun c130 => ?_)
  · replace h := ite_t c130 h
    refine a_aload_n dX3_provenBy_186 rfl rfl ?_
    refine a_aload_n dX3_provenBy_187 rfl rfl ?_
    obtain ⟨⟨ga131, gs132⟩, h⟩ := gd_t h
    obtain ⟨r133, e134, h⟩ := bnd_t h
    refine a_get (v := .ref r133) dX3_provenBy_188 fl_3_27 ga131 gs132 (gvR e134 rfl) ?_
    refine a_iload_n dX3_provenBy_191 rfl rfl ?_
    obtain ⟨v135, M136, e137, h⟩ := bnd2_t h
    obtain ⟨n138, en139, e137⟩ := cal_t e137
    refine e_callS (As := [.ref r133, .int x1]) (st := [.ref a0]) true dX3_provenBy_192 mw_X10_at (Or.inr ⟨rfl, mn_X3_97⟩) sm_X10_at rfl (Nat.le_of_ble_eq_true rfl) en139 (s_X10_at e137) ?_
    obtain ⟨⟨ga140, gs141⟩, h⟩ := gd_t h
    obtain ⟨v142, M143, e144, h⟩ := bnd2_t h
    obtain ⟨n145, en146, e144⟩ := cal_t e144
    refine e_callV (As := [.int v135]) (st := []) (a := a0) (ci := 3) false dX3_provenBy_195 mw_X3_takenOn (Or.inl ⟨rfl, ml_X3_145⟩) im_X3_takenOn se_X3_takenOn (by decide) ga140 gs141 rfl (Nat.le_of_ble_eq_true rfl) en146 (s_X3_takenOn e144) ?_
    exact a_iret dX3_provenBy_198 rfl (hR _ _ h)
  · replace h := ite_f c130 h
    refine a_aload_n dX3_provenBy_173 rfl rfl ?_
    obtain ⟨⟨ga147, gs148⟩, h⟩ := gd_t h
    obtain ⟨r149, e150, h⟩ := bnd_t h
    refine a_get (v := .ref r149) dX3_provenBy_174 fl_3_43 ga147 gs148 (gvR e150 rfl) ?_
    refine a_iconst (v := -1) dX3_provenBy_177 (by decide) ?_
    refine a_iload_n dX3_provenBy_178 rfl rfl ?_
    refine a_isub dX3_provenBy_179 ?_
    obtain ⟨⟨ga151, gs152⟩, h⟩ := gd_t h
    obtain ⟨v153, M154, e155, h⟩ := bnd2_t h
    obtain ⟨n156, en157, e155⟩ := cal_t e155
    refine e_callV (As := [.int ((-1) - v7)]) (st := []) (a := r149) (ci := 2) false dX3_provenBy_180 mw_X2_formulaOf (Or.inl ⟨rfl, ml_X3_140⟩) im_X2_formulaOf se_X2_formulaOf (by decide) ga151 gs152 rfl (Nat.le_of_ble_eq_true rfl) en157 (s_X2_formulaOf e155) ?_
    refine a_goto 198 dX3_provenBy_183 (by decide) ?_
    exact a_iret dX3_provenBy_198 rfl (hR _ _ h)
noncomputable def b_X3_provenBy (n : Nat) (a0 : Nat) (x1 : Int32) (M : Mem) : Option (Int32 × Mem) := T_X3_provenBy_0 (fun v M => some (v, M)) none n a0 x1 M
set_option maxHeartbeats 4000000 in
set_option maxRecDepth 100000 in
theorem sb_X3_provenBy {X : Nat × (Nat → Int32)} {al : Bool} {n : Nat} {a0 : Nat} {x1 : Int32} {M : Mem} {v : Int32} {M1 : Mem} (h : b_X3_provenBy n a0 x1 M = some (v, M1)) : AE yX3_provenBy cX3_provenBy 5 (some .int) al n X [.ref a0, .int x1] M (some (.int v)) M1 := by
  refine AM.of false (by decide +kernel) (by intro h; cases h) (Nat.le_of_ble_eq_true rfl) ?_
  have h2 : T_X3_provenBy_0 (fun v2 M2 => some (v2, M2) = some (v, M1)) (none = some (v, M1)) n a0 x1 M := (n_X3_provenBy_0 (fun o => o = some (v, M1)) (fun v M => some (v, M)) none n a0 x1 M).mp h
  have h3 : ((none : Option (Int32 × Mem)) = some (v, M1)) = False := eq_false (by intro q; cases q)
  rw [h3] at h2
  exact w_X3_provenBy_0 (fun v2 M2 h => by cases h; exact ⟨rfl, rfl⟩) h2

noncomputable abbrev f_X3_provenBy := b_X3_provenBy
theorem s_X3_provenBy {X : Nat × (Nat → Int32)} {al : Bool} {n : Nat} {a0 : Nat} {x1 : Int32} {M : Mem} {v : Int32} {M1 : Mem} (h : f_X3_provenBy n a0 x1 M = some (v, M1)) : AE yX3_provenBy cX3_provenBy 5 (some .int) al n X [.ref a0, .int x1] M (some (.int v)) M1 := sb_X3_provenBy h
def ix_X3_ask (c : Nat) : List Nat := if c = 0 then [0] else if c = 2 then [0, 1] else if c = 81 then [0, 1, 2] else []
def PW_X3_ask (X : Nat × (Nat → Int32)) (al : Bool) (n : Nat) (Q : Option Value → Mem → Prop) (c : Nat) (l : List Value) (M : Mem) : Prop := AW X (RX3, cX3_ask, 5, (some .int), false, al, n) 0 0 c (List.zip (ix_X3_ask c) l) (l.drop (ix_X3_ask c).length) M Q
set_option maxHeartbeats 4000000 in
set_option maxRecDepth 100000 in
noncomputable def T_X3_ask_0.{u} {α : Sort u} (J : Nat → List Value → Mem → α) (R : Int32 → Mem → α) (N : α) (n : Nat) (a0 : Nat) (M : Mem) : α := J 2 [.ref a0, .int 0] M
set_option maxHeartbeats 4000000 in
set_option maxRecDepth 100000 in
theorem n_X3_ask_0.{u, v} {α : Sort u} {β : Sort v} (h : α → β) (J : Nat → List Value → Mem → α) (R : Int32 → Mem → α) (N : α) (n : Nat) (a0 : Nat) (M : Mem) : h (T_X3_ask_0 J R N n a0 M) = T_X3_ask_0 (fun c l M => h (J c l M)) (fun v M => h (R v M)) (h N) n a0 M := by
  simp only [T_X3_ask_0, nat_ite h, nat_gd h, nat_bnd h, nat_bnd2 h]
set_option maxHeartbeats 4000000 in
set_option maxRecDepth 100000 in
theorem w_X3_ask_0 {X : Nat × (Nat → Int32)} {al : Bool} {n : Nat} {Q : Option Value → Mem → Prop} {J : Nat → List Value → Mem → Prop} (hJ : ∀ c l M, J c l M → PW_X3_ask X al n Q c l M) {R : Int32 → Mem → Prop} (hR : ∀ v M, R v M → Q (some (.int v)) M) {a0 : Nat} {M : Mem} (h : T_X3_ask_0 J R False n a0 M) : AW X (RX3, cX3_ask, 5, (some .int), false, al, n) 0 0 0 [(0, .ref a0)] [] M Q := by
  unfold T_X3_ask_0 at h
  refine a_iconst (v := 0) dX3_ask_0 (by decide) ?_
  refine a_istore_n dX3_ask_1 rfl (Nat.le_of_ble_eq_true rfl) (lv2 := [(1, .int 0), (0, .ref a0)]) rfl ?_
  exact a_lv (lv2 := [(0, .ref a0), (1, .int 0)]) (fa_cons rfl (fa_cons rfl fa_nil)) (hJ _ _ _ h)
set_option maxHeartbeats 4000000 in
set_option maxRecDepth 100000 in
noncomputable def T_X3_ask_2.{u} {α : Sort u} (J : Nat → List Value → Mem → α) (R : Int32 → Mem → α) (N : α) (n : Nat) (a0 : Nat) (x1 : Int32) (M : Mem) : α := gd (fO M a0 3) N (if (M.2.2.1 a0 12) ≤ x1 then R (-1) M else bnd2 (cal n (fun n => f_X3_stop n a0 x1 M)) N (fun v4 M5 => if v4 < 0 then J 2 [.ref a0, .int (x1 + 1)] M5 else if 200 ≤ v4 then J 2 [.ref a0, .int (x1 + 1)] M5 else gd (fO M5 a0 3) N (bnd2 (cal n (fun n => f_X3_unfitWithin n a0 v4 M5)) N (fun v13 M14 => if v13 = (-1) then gd (fO M14 a0 3) N (bnd (M14.2.2.2.2 a0 10) N (fun r21 => bnd2 (cal n (fun n => f_X3_provenBy n a0 v4 M14)) N (fun v23 M24 => gd (fA M24 r21 1 v4) N (gd (fO M24 a0 3) N (bnd (M24.2.2.2.2 a0 2) N (fun r34 => bnd2 (cal n (fun n => f_X3_parentOf n a0 v4 (wI M24 r21 (v4.toNatClampNeg) v23))) N (fun v36 M37 => gd (fO M37 r34 9) N (bnd2 (cal n (fun n => f_X9_opAt n r34 v36 M37)) N (fun v43 M44 => if v43 = 9 then gd (fO M44 a0 3) N (bnd2 (cal n (fun n => f_X3_rankOf n a0 v4 M44)) N (fun v51 M52 => if v51 = 0 then J 81 [.ref a0, .int x1, .int v4, .int 1] M52 else J 81 [.ref a0, .int x1, .int v4, .int 0] M52)) else J 81 [.ref a0, .int x1, .int v4, .int 0] M44))))))))) else R v13 M14))))
set_option maxHeartbeats 4000000 in
set_option maxRecDepth 100000 in
theorem n_X3_ask_2.{u, v} {α : Sort u} {β : Sort v} (h : α → β) (J : Nat → List Value → Mem → α) (R : Int32 → Mem → α) (N : α) (n : Nat) (a0 : Nat) (x1 : Int32) (M : Mem) : h (T_X3_ask_2 J R N n a0 x1 M) = T_X3_ask_2 (fun c l M => h (J c l M)) (fun v M => h (R v M)) (h N) n a0 x1 M := by
  simp only [T_X3_ask_2, nat_ite h, nat_gd h, nat_bnd h, nat_bnd2 h]
set_option maxHeartbeats 4000000 in
set_option maxRecDepth 100000 in
theorem w_X3_ask_2 {X : Nat × (Nat → Int32)} {al : Bool} {n : Nat} {Q : Option Value → Mem → Prop} {J : Nat → List Value → Mem → Prop} (hJ : ∀ c l M, J c l M → PW_X3_ask X al n Q c l M) {R : Int32 → Mem → Prop} (hR : ∀ v M, R v M → Q (some (.int v)) M) {a0 : Nat} {x1 : Int32} {M : Mem} (h : T_X3_ask_2 J R False n a0 x1 M) : AW X (RX3, cX3_ask, 5, (some .int), false, al, n) 0 0 2 [(0, .ref a0), (1, .int x1)] [] M Q := by
  unfold T_X3_ask_2 at h
  refine a_iload_n dX3_ask_2 rfl rfl ?_
  refine a_aload_n dX3_ask_3 rfl rfl ?_
  obtain ⟨⟨ga1, gs2⟩, h⟩ := gd_t h
  refine a_get (v := .int (M.2.2.1 a0 12)) dX3_ask_4 fl_3_68 ga1 gs2 rfl ?_
  refine a_icmp_ge 114 dX3_ask_7 (by decide) (fun c3 => ?_) (fun c3 => ?_)
  · replace h := ite_t c3 h
    refine a_iconst (v := -1) dX3_ask_114 (by decide) ?_
    exact a_iret dX3_ask_115 rfl (hR _ _ h)
  · replace h := ite_f c3 h
    refine a_aload_n dX3_ask_10 rfl rfl ?_
    refine a_iload_n dX3_ask_11 rfl rfl ?_
    obtain ⟨v4, M5, e6, h⟩ := bnd2_t h
    obtain ⟨n7, en8, e6⟩ := cal_t e6
    refine e_callV (As := [.int x1]) (st := []) (a := a0) (ci := 3) false dX3_ask_12 mw_X3_stop (Or.inl ⟨rfl, ml_X3_124⟩) im_X3_stop se_X3_stop (by decide) ga1 gs2 rfl (Nat.le_of_ble_eq_true rfl) en8 (s_X3_stop e6) ?_
    refine a_istore_n dX3_ask_15 rfl (Nat.le_of_ble_eq_true rfl) (lv2 := [(2, .int v4), (0, .ref a0), (1, .int x1)]) rfl ?_
    refine a_iload_n dX3_ask_16 rfl rfl ?_
    refine a_if_lt 108 dX3_ask_17 (by decide) (fun c9 => ?_) (fun c9 => ?_)
    · replace h := ite_t c9 h
      refine a_iinc (v := (x1 + 1)) dX3_ask_108 rfl (by first | rfl | decide) (Nat.le_of_ble_eq_true rfl) (lv2 := [(1, .int (x1 + 1)), (2, .int v4), (0, .ref a0)]) rfl ?_
      refine a_goto 2 dX3_ask_111 (by decide) ?_
      exact a_lv (lv2 := [(0, .ref a0), (1, .int (x1 + 1))]) (fa_cons rfl (fa_cons rfl fa_nil)) (hJ _ _ _ h)
    · replace h := ite_f c9 h
      refine a_iload_n dX3_ask_20 rfl rfl ?_
      refine a_sipush (v := 200) dX3_ask_21 (by decide) ?_
      refine a_icmp_ge 108 dX3_ask_24 (by decide) (fun c10 => ?_) (fun c10 => ?_)
      · replace h := ite_t c10 h
        refine a_iinc (v := (x1 + 1)) dX3_ask_108 rfl (by first | rfl | decide) (Nat.le_of_ble_eq_true rfl) (lv2 := [(1, .int (x1 + 1)), (2, .int v4), (0, .ref a0)]) rfl ?_
        refine a_goto 2 dX3_ask_111 (by decide) ?_
        exact a_lv (lv2 := [(0, .ref a0), (1, .int (x1 + 1))]) (fa_cons rfl (fa_cons rfl fa_nil)) (hJ _ _ _ h)
      · replace h := ite_f c10 h
        refine a_aload_n dX3_ask_27 rfl rfl ?_
        refine a_iload_n dX3_ask_28 rfl rfl ?_
        obtain ⟨⟨ga11, gs12⟩, h⟩ := gd_t h
        obtain ⟨v13, M14, e15, h⟩ := bnd2_t h
        obtain ⟨n16, en17, e15⟩ := cal_t e15
        refine e_callV (As := [.int v4]) (st := []) (a := a0) (ci := 3) false dX3_ask_29 mw_X3_unfitWithin (Or.inl ⟨rfl, ml_X3_127⟩) im_X3_unfitWithin se_X3_unfitWithin (by decide) ga11 gs12 rfl (Nat.le_of_ble_eq_true rfl) en17 (s_X3_unfitWithin e15) ?_
        refine a_istore_n dX3_ask_32 rfl (Nat.le_of_ble_eq_true rfl) (lv2 := [(3, .int v13), (2, .int v4), (0, .ref a0), (1, .int x1)]) rfl ?_
        refine a_iload_n dX3_ask_33 rfl rfl ?_
        refine a_iconst (v := -1) dX3_ask_34 (by decide) ?_
        refine a_icmp_eq 40 dX3_ask_35 (by decide) (fun c18 => ?_) (fun c18 => ?_)
        · replace h := ite_t c18 h
          refine a_aload_n dX3_ask_40 rfl rfl ?_
          obtain ⟨⟨ga19, gs20⟩, h⟩ := gd_t h
          obtain ⟨r21, e22, h⟩ := bnd_t h
          refine a_get (v := .ref r21) dX3_ask_41 fl_3_33 ga19 gs20 (gvR e22 rfl) ?_
          refine a_iload_n dX3_ask_44 rfl rfl ?_
          refine a_aload_n dX3_ask_45 rfl rfl ?_
          refine a_iload_n dX3_ask_46 rfl rfl ?_
          obtain ⟨v23, M24, e25, h⟩ := bnd2_t h
          obtain ⟨n26, en27, e25⟩ := cal_t e25
          refine e_callV (As := [.int v4]) (st := [.int v4, .ref r21]) (a := a0) (ci := 3) false dX3_ask_47 mw_X3_provenBy (Or.inl ⟨rfl, ml_X3_130⟩) im_X3_provenBy se_X3_provenBy (by decide) ga19 gs20 rfl (Nat.le_of_ble_eq_true rfl) en27 (s_X3_provenBy e25) ?_
          obtain ⟨⟨ga28, gn29, gs30, gi31⟩, h⟩ := gd_t h
          refine a_iastore dX3_ask_50 ga28 gs30 gi31 ?_
          refine a_aload_n dX3_ask_51 rfl rfl ?_
          obtain ⟨⟨ga32, gs33⟩, h⟩ := gd_t h
          obtain ⟨r34, e35, h⟩ := bnd_t h
          refine a_get (v := .ref r34) dX3_ask_52 fl_3_50 ga32 gs33 (gvR e35 rfl) ?_
          refine a_aload_n dX3_ask_55 rfl rfl ?_
          refine a_iload_n dX3_ask_56 rfl rfl ?_
          obtain ⟨v36, M37, e38, h⟩ := bnd2_t h
          obtain ⟨n39, en40, e38⟩ := cal_t e38
          refine e_callV (As := [.int v4]) (st := [.ref r34]) (a := a0) (ci := 3) false dX3_ask_57 mw_X3_parentOf (Or.inl ⟨rfl, ml_X3_101⟩) im_X3_parentOf se_X3_parentOf (by decide) ga32 gs33 rfl (Nat.le_of_ble_eq_true rfl) en40 (s_X3_parentOf e38) ?_
          obtain ⟨⟨ga41, gs42⟩, h⟩ := gd_t h
          obtain ⟨v43, M44, e45, h⟩ := bnd2_t h
          obtain ⟨n46, en47, e45⟩ := cal_t e45
          refine e_callV (As := [.int v36]) (st := []) (a := r34) (ci := 9) false dX3_ask_60 mw_X9_opAt (Or.inl ⟨rfl, ml_X3_58⟩) im_X9_opAt se_X9_opAt (by decide) ga41 gs42 rfl (Nat.le_of_ble_eq_true rfl) en47 (s_X9_opAt e45) ?_
          refine a_bipush (v := 9) dX3_ask_63 (by decide) ?_
          refine a_icmp_ne 80 dX3_ask_65 (by decide) (fun c48 => ?_) (fun c48 => ?_)
          · replace h := ite_f c48 h
            refine a_iconst (v := 0) dX3_ask_80 (by decide) ?_
            exact a_lv (lv2 := [(0, .ref a0), (1, .int x1), (2, .int v4)]) (fa_cons rfl (fa_cons rfl (fa_cons rfl fa_nil))) (hJ _ _ _ h)
          · replace h := ite_t c48 h
            refine a_aload_n dX3_ask_68 rfl rfl ?_
            refine a_iload_n dX3_ask_69 rfl rfl ?_
            obtain ⟨⟨ga49, gs50⟩, h⟩ := gd_t h
            obtain ⟨v51, M52, e53, h⟩ := bnd2_t h
            obtain ⟨n54, en55, e53⟩ := cal_t e53
            refine e_callV (As := [.int v4]) (st := []) (a := a0) (ci := 3) false dX3_ask_70 mw_X3_rankOf (Or.inl ⟨rfl, ml_X3_104⟩) im_X3_rankOf se_X3_rankOf (by decide) ga49 gs50 rfl (Nat.le_of_ble_eq_true rfl) en55 (s_X3_rankOf e53) ?_
            refine a_if_ne 80 dX3_ask_73 (by decide) (fun c56 => ?_) (fun c56 => ?_)
            · replace h := ite_f c56 h
              refine a_iconst (v := 0) dX3_ask_80 (by decide) ?_
              exact a_lv (lv2 := [(0, .ref a0), (1, .int x1), (2, .int v4)]) (fa_cons rfl (fa_cons rfl (fa_cons rfl fa_nil))) (hJ _ _ _ h)
            · replace h := ite_t c56 h
              refine a_iconst (v := 1) dX3_ask_76 (by decide) ?_
              refine a_goto 81 dX3_ask_77 (by decide) ?_
              exact a_lv (lv2 := [(0, .ref a0), (1, .int x1), (2, .int v4)]) (fa_cons rfl (fa_cons rfl (fa_cons rfl fa_nil))) (hJ _ _ _ h)
        · replace h := ite_f c18 h
          refine a_iload_n dX3_ask_38 rfl rfl ?_
          exact a_iret dX3_ask_39 rfl (hR _ _ h)
set_option maxHeartbeats 4000000 in
set_option maxRecDepth 100000 in
noncomputable def T_X3_ask_81.{u} {α : Sort u} (J : Nat → List Value → Mem → α) (R : Int32 → Mem → α) (N : α) (n : Nat) (a0 : Nat) (x1 : Int32) (x2 : Int32) (xs0 : Int32) (M : Mem) : α := if xs0 = 0 then J 2 [.ref a0, .int (x1 + 1)] M else gd (fO M a0 3) N (bnd (M.2.2.2.2 a0 0) N (fun r4 => bnd (M.2.2.2.2 a0 10) N (fun r6 => gd (fA M r6 1 x2) N (gd (fO M r4 1) N (bnd2 (cal n (fun n => f_X1_kindOf n r4 (M.2.2.1 r6 (x2.toNatClampNeg)) M)) N (fun v14 M15 => if v14 = 11 then J 2 [.ref a0, .int (x1 + 1)] M15 else R x2 M15))))))
set_option maxHeartbeats 4000000 in
set_option maxRecDepth 100000 in
theorem n_X3_ask_81.{u, v} {α : Sort u} {β : Sort v} (h : α → β) (J : Nat → List Value → Mem → α) (R : Int32 → Mem → α) (N : α) (n : Nat) (a0 : Nat) (x1 : Int32) (x2 : Int32) (xs0 : Int32) (M : Mem) : h (T_X3_ask_81 J R N n a0 x1 x2 xs0 M) = T_X3_ask_81 (fun c l M => h (J c l M)) (fun v M => h (R v M)) (h N) n a0 x1 x2 xs0 M := by
  simp only [T_X3_ask_81, nat_ite h, nat_gd h, nat_bnd h, nat_bnd2 h]
set_option maxHeartbeats 4000000 in
set_option maxRecDepth 100000 in
theorem w_X3_ask_81 {X : Nat × (Nat → Int32)} {al : Bool} {n : Nat} {Q : Option Value → Mem → Prop} {J : Nat → List Value → Mem → Prop} (hJ : ∀ c l M, J c l M → PW_X3_ask X al n Q c l M) {R : Int32 → Mem → Prop} (hR : ∀ v M, R v M → Q (some (.int v)) M) {a0 : Nat} {x1 : Int32} {x2 : Int32} {xs0 : Int32} {M : Mem} (h : T_X3_ask_81 J R False n a0 x1 x2 xs0 M) : AW X (RX3, cX3_ask, 5, (some .int), false, al, n) 0 0 81 [(0, .ref a0), (1, .int x1), (2, .int x2)] [.int xs0] M Q := by
  unfold T_X3_ask_81 at h
  refine a_istore dX3_ask_81 (Nat.le_of_ble_eq_true rfl) (lv2 := [(4, .int xs0), (0, .ref a0), (1, .int x1), (2, .int x2)]) rfl ?_
  refine a_iload dX3_ask_83 rfl ?_
  refine a_if_eq 108 dX3_ask_85 (by decide) (fun c1 => ?_) (fun c1 => ?_)
  · replace h := ite_t c1 h
    refine a_iinc (v := (x1 + 1)) dX3_ask_108 rfl (by first | rfl | decide) (Nat.le_of_ble_eq_true rfl) (lv2 := [(1, .int (x1 + 1)), (4, .int xs0), (0, .ref a0), (2, .int x2)]) rfl ?_
    refine a_goto 2 dX3_ask_111 (by decide) ?_
    exact a_lv (lv2 := [(0, .ref a0), (1, .int (x1 + 1))]) (fa_cons rfl (fa_cons rfl fa_nil)) (hJ _ _ _ h)
  · replace h := ite_f c1 h
    refine a_aload_n dX3_ask_88 rfl rfl ?_
    obtain ⟨⟨ga2, gs3⟩, h⟩ := gd_t h
    obtain ⟨r4, e5, h⟩ := bnd_t h
    refine a_get (v := .ref r4) dX3_ask_89 fl_3_39 ga2 gs3 (gvR e5 rfl) ?_
    refine a_aload_n dX3_ask_92 rfl rfl ?_
    obtain ⟨r6, e7, h⟩ := bnd_t h
    refine a_get (v := .ref r6) dX3_ask_93 fl_3_33 ga2 gs3 (gvR e7 rfl) ?_
    refine a_iload_n dX3_ask_96 rfl rfl ?_
    obtain ⟨⟨ga8, gn9, gs10, gi11⟩, h⟩ := gd_t h
    refine a_iaload dX3_ask_97 ga8 gs10 gi11 ?_
    obtain ⟨⟨ga12, gs13⟩, h⟩ := gd_t h
    obtain ⟨v14, M15, e16, h⟩ := bnd2_t h
    obtain ⟨n17, en18, e16⟩ := cal_t e16
    refine e_callV (As := [.int (M.2.2.1 r6 (x2.toNatClampNeg))]) (st := []) (a := r4) (ci := 1) false dX3_ask_98 mw_X1_kindOf (Or.inl ⟨rfl, ml_X3_133⟩) im_X1_kindOf se_X1_kindOf (by decide) ga12 gs13 rfl (Nat.le_of_ble_eq_true rfl) en18 (s_X1_kindOf e16) ?_
    refine a_bipush (v := 11) dX3_ask_101 (by decide) ?_
    refine a_icmp_eq 108 dX3_ask_103 (by decide) (fun c19 => ?_) (fun c19 => ?_)
    · replace h := ite_t c19 h
      refine a_iinc (v := (x1 + 1)) dX3_ask_108 rfl (by first | rfl | decide) (Nat.le_of_ble_eq_true rfl) (lv2 := [(1, .int (x1 + 1)), (4, .int xs0), (0, .ref a0), (2, .int x2)]) rfl ?_
      refine a_goto 2 dX3_ask_111 (by decide) ?_
      exact a_lv (lv2 := [(0, .ref a0), (1, .int (x1 + 1))]) (fa_cons rfl (fa_cons rfl fa_nil)) (hJ _ _ _ h)
    · replace h := ite_f c19 h
      refine a_iload_n dX3_ask_106 rfl rfl ?_
      exact a_iret dX3_ask_107 rfl (hR _ _ h)
set_option maxHeartbeats 4000000 in
set_option maxRecDepth 100000 in
noncomputable def st_X3_ask (n : Nat) (s : Sg) : Option (Sg ⊕ (Int32 × Mem)) := if s.1 = 0 then vR s.2.1 none (fun a0 t => vE t none (T_X3_ask_0 (fun c l M => some (.inl (c, l, M))) (fun v M => some (.inr (v, M))) none n a0 s.2.2)) else if s.1 = 2 then vR s.2.1 none (fun a0 t => vI t none (fun x1 t => vE t none (T_X3_ask_2 (fun c l M => some (.inl (c, l, M))) (fun v M => some (.inr (v, M))) none n a0 x1 s.2.2))) else if s.1 = 81 then vR s.2.1 none (fun a0 t => vI t none (fun x1 t => vI t none (fun x2 t => vI t none (fun xs0 t => vE t none (T_X3_ask_81 (fun c l M => some (.inl (c, l, M))) (fun v M => some (.inr (v, M))) none n a0 x1 x2 xs0 s.2.2))))) else none
noncomputable abbrev g_X3_ask_0 (n : Nat) (a0 : Nat) (M : Mem) : Option (Int32 × Mem) := lp (st_X3_ask n) (0, [.ref a0], M)
set_option maxHeartbeats 4000000 in
set_option maxRecDepth 100000 in
theorem ge_X3_ask_0 (n : Nat) (a0 : Nat) (M : Mem) : g_X3_ask_0 n a0 M = T_X3_ask_0 (fun c l M => lp (st_X3_ask n) (c, l, M)) (fun v M => some (v, M)) none n a0 M := (lp_eq _ _).trans (n_X3_ask_0 (lpK (st_X3_ask n)) (fun c l M => some (.inl (c, l, M))) (fun v M => some (.inr (v, M))) none n a0 M)
noncomputable abbrev g_X3_ask_2 (n : Nat) (a0 : Nat) (x1 : Int32) (M : Mem) : Option (Int32 × Mem) := lp (st_X3_ask n) (2, [.ref a0, .int x1], M)
set_option maxHeartbeats 4000000 in
set_option maxRecDepth 100000 in
theorem ge_X3_ask_2 (n : Nat) (a0 : Nat) (x1 : Int32) (M : Mem) : g_X3_ask_2 n a0 x1 M = T_X3_ask_2 (fun c l M => lp (st_X3_ask n) (c, l, M)) (fun v M => some (v, M)) none n a0 x1 M := (lp_eq _ _).trans (n_X3_ask_2 (lpK (st_X3_ask n)) (fun c l M => some (.inl (c, l, M))) (fun v M => some (.inr (v, M))) none n a0 x1 M)
noncomputable abbrev g_X3_ask_81 (n : Nat) (a0 : Nat) (x1 : Int32) (x2 : Int32) (xs0 : Int32) (M : Mem) : Option (Int32 × Mem) := lp (st_X3_ask n) (81, [.ref a0, .int x1, .int x2, .int xs0], M)
set_option maxHeartbeats 4000000 in
set_option maxRecDepth 100000 in
theorem ge_X3_ask_81 (n : Nat) (a0 : Nat) (x1 : Int32) (x2 : Int32) (xs0 : Int32) (M : Mem) : g_X3_ask_81 n a0 x1 x2 xs0 M = T_X3_ask_81 (fun c l M => lp (st_X3_ask n) (c, l, M)) (fun v M => some (v, M)) none n a0 x1 x2 xs0 M := (lp_eq _ _).trans (n_X3_ask_81 (lpK (st_X3_ask n)) (fun c l M => some (.inl (c, l, M))) (fun v M => some (.inr (v, M))) none n a0 x1 x2 xs0 M)
noncomputable def b_X3_ask (n : Nat) (a0 : Nat) (M : Mem) : Option (Int32 × Mem) := g_X3_ask_0 n a0 M
set_option maxHeartbeats 4000000 in
set_option maxRecDepth 100000 in
theorem sb_X3_ask {X : Nat × (Nat → Int32)} {al : Bool} {n : Nat} {a0 : Nat} {M : Mem} {v : Int32} {M1 : Mem} (h : b_X3_ask n a0 M = some (v, M1)) : AE yX3_ask cX3_ask 5 (some .int) al n X [.ref a0] M (some (.int v)) M1 := by
  refine AM.of false (by decide +kernel) (by intro h; cases h) (Nat.le_of_ble_eq_true rfl) ?_
  refine lp_snd (P := fun s r => PW_X3_ask X al n (fun v M2 => v = (some (.int r.1)) ∧ M2 = r.2) s.1 s.2.1 s.2.2) ?_ h
  clear h
  rintro ⟨c, l, M⟩ r h
  unfold st_X3_ask at h
  rcases ite_p h with ⟨e, h⟩ | ⟨e, h⟩
  · replace e : c = 0 := e
    subst e
    obtain ⟨a0, tt0, e, h⟩ := vR_p id h
    replace e : l = _ := e
    subst e
    obtain ⟨e, h⟩ := vE_p id h
    replace e : tt0 = [] := e
    subst e
    exact w_X3_ask_0 (J := fun c l M => PW_X3_ask X al n (fun v M2 => v = (some (.int r.1)) ∧ M2 = r.2) c l M) (R := fun v M => (v, M) = r) (fun _ _ _ h => h) (fun v M h => by cases h; exact ⟨rfl, rfl⟩) ((n_X3_ask_0 (lpP (fun (s : Sg) (r : Int32 × Mem) => PW_X3_ask X al n (fun v M2 => v = (some (.int r.1)) ∧ M2 = r.2) s.1 s.2.1 s.2.2) r) (fun c l M => some (.inl (c, l, M))) (fun v M => some (.inr (v, M))) none n a0 M).mp h)
  rcases ite_p h with ⟨e, h⟩ | ⟨e, h⟩
  · replace e : c = 2 := e
    subst e
    obtain ⟨a0, tt0, e, h⟩ := vR_p id h
    replace e : l = _ := e
    subst e
    obtain ⟨x1, tt1, e, h⟩ := vI_p id h
    replace e : tt0 = _ := e
    subst e
    obtain ⟨e, h⟩ := vE_p id h
    replace e : tt1 = [] := e
    subst e
    exact w_X3_ask_2 (J := fun c l M => PW_X3_ask X al n (fun v M2 => v = (some (.int r.1)) ∧ M2 = r.2) c l M) (R := fun v M => (v, M) = r) (fun _ _ _ h => h) (fun v M h => by cases h; exact ⟨rfl, rfl⟩) ((n_X3_ask_2 (lpP (fun (s : Sg) (r : Int32 × Mem) => PW_X3_ask X al n (fun v M2 => v = (some (.int r.1)) ∧ M2 = r.2) s.1 s.2.1 s.2.2) r) (fun c l M => some (.inl (c, l, M))) (fun v M => some (.inr (v, M))) none n a0 x1 M).mp h)
  rcases ite_p h with ⟨e, h⟩ | ⟨e, h⟩
  · replace e : c = 81 := e
    subst e
    obtain ⟨a0, tt0, e, h⟩ := vR_p id h
    replace e : l = _ := e
    subst e
    obtain ⟨x1, tt1, e, h⟩ := vI_p id h
    replace e : tt0 = _ := e
    subst e
    obtain ⟨x2, tt2, e, h⟩ := vI_p id h
    replace e : tt1 = _ := e
    subst e
    obtain ⟨xs0, tt3, e, h⟩ := vI_p id h
    replace e : tt2 = _ := e
    subst e
    obtain ⟨e, h⟩ := vE_p id h
    replace e : tt3 = [] := e
    subst e
    exact w_X3_ask_81 (J := fun c l M => PW_X3_ask X al n (fun v M2 => v = (some (.int r.1)) ∧ M2 = r.2) c l M) (R := fun v M => (v, M) = r) (fun _ _ _ h => h) (fun v M h => by cases h; exact ⟨rfl, rfl⟩) ((n_X3_ask_81 (lpP (fun (s : Sg) (r : Int32 × Mem) => PW_X3_ask X al n (fun v M2 => v = (some (.int r.1)) ∧ M2 = r.2) s.1 s.2.1 s.2.2) r) (fun c l M => some (.inl (c, l, M))) (fun v M => some (.inr (v, M))) none n a0 x1 x2 xs0 M).mp h)
  · exact h.elim

noncomputable abbrev f_X3_ask := b_X3_ask
theorem s_X3_ask {X : Nat × (Nat → Int32)} {al : Bool} {n : Nat} {a0 : Nat} {M : Mem} {v : Int32} {M1 : Mem} (h : f_X3_ask n a0 M = some (v, M1)) : AE yX3_ask cX3_ask 5 (some .int) al n X [.ref a0] M (some (.int v)) M1 := sb_X3_ask h
set_option maxHeartbeats 4000000 in
set_option maxRecDepth 100000 in
noncomputable def T_X6_blameTerm_0.{u} {α : Sort u} (R : Unit → Mem → α) (N : α) (n : Nat) (a0 : Nat) (x1 : Int32) (M : Mem) : α := gd (fO M a0 6) N (bnd (M.2.2.2.2 a0 9) N (fun r3 => bnd2 (cal n (fun n => f_X10_at n r3 x1 M)) N (fun v5 M6 => gd (fO M6 a0 6) N (bnd2 (cal n (fun n => f_X6_fail n a0 5 v5 M6)) N (fun v12 M13 => R () M13)))))
set_option maxHeartbeats 4000000 in
set_option maxRecDepth 100000 in
theorem n_X6_blameTerm_0.{u, v} {α : Sort u} {β : Sort v} (h : α → β) (R : Unit → Mem → α) (N : α) (n : Nat) (a0 : Nat) (x1 : Int32) (M : Mem) : h (T_X6_blameTerm_0 R N n a0 x1 M) = T_X6_blameTerm_0 (fun v M => h (R v M)) (h N) n a0 x1 M := by
  simp only [T_X6_blameTerm_0, nat_ite h, nat_gd h, nat_bnd h, nat_bnd2 h]
set_option maxHeartbeats 4000000 in
set_option maxRecDepth 100000 in
theorem w_X6_blameTerm_0 {X : Nat × (Nat → Int32)} {al : Bool} {n : Nat} {Q : Option Value → Mem → Prop} {R : Unit → Mem → Prop} (hR : ∀ v M, R v M → Q none M) {a0 : Nat} {x1 : Int32} {M : Mem} (h : T_X6_blameTerm_0 R False n a0 x1 M) : AW X (RX6, cX6_blameTerm, 2, none, false, al, n) 0 0 0 [(0, .ref a0), (1, .int x1)] [] M Q := by
  unfold T_X6_blameTerm_0 at h
  refine a_aload_n dX6_blameTerm_0 rfl rfl ?_
  refine a_iconst (v := 5) dX6_blameTerm_1 (by decide) ?_
  refine a_aload_n dX6_blameTerm_2 rfl rfl ?_
  obtain ⟨⟨ga1, gs2⟩, h⟩ := gd_t h
  obtain ⟨r3, e4, h⟩ := bnd_t h
  refine a_get (v := .ref r3) dX6_blameTerm_3 fl_6_32 ga1 gs2 (gvR e4 rfl) ?_
  refine a_iload_n dX6_blameTerm_6 rfl rfl ?_
  obtain ⟨v5, M6, e7, h⟩ := bnd2_t h
  obtain ⟨n8, en9, e7⟩ := cal_t e7
  refine e_callS (As := [.ref r3, .int x1]) (st := [.int 5, .ref a0]) true dX6_blameTerm_7 mw_X10_at (Or.inr ⟨rfl, mn_X6_144⟩) sm_X10_at rfl (Nat.le_of_ble_eq_true rfl) en9 (s_X10_at e7) ?_
  obtain ⟨⟨ga10, gs11⟩, h⟩ := gd_t h
  obtain ⟨v12, M13, e14, h⟩ := bnd2_t h
  obtain ⟨n15, en16, e14⟩ := cal_t e14
  refine e_callV (As := [.int 5, .int v5]) (st := []) (a := a0) (ci := 6) false dX6_blameTerm_10 mw_X6_fail (Or.inl ⟨rfl, ml_X6_107⟩) im_X6_fail se_X6_fail (by decide) ga10 gs11 rfl (Nat.le_of_ble_eq_true rfl) en16 (s_X6_fail e14) ?_
  refine a_pop dX6_blameTerm_13 rfl ?_
  exact a_vret dX6_blameTerm_14 rfl (hR _ _ h)
noncomputable def b_X6_blameTerm (n : Nat) (a0 : Nat) (x1 : Int32) (M : Mem) : Option (Unit × Mem) := T_X6_blameTerm_0 (fun v M => some (v, M)) none n a0 x1 M
set_option maxHeartbeats 4000000 in
set_option maxRecDepth 100000 in
theorem sb_X6_blameTerm {X : Nat × (Nat → Int32)} {al : Bool} {n : Nat} {a0 : Nat} {x1 : Int32} {M : Mem} {v : Unit} {M1 : Mem} (h : b_X6_blameTerm n a0 x1 M = some (v, M1)) : AE yX6_blameTerm cX6_blameTerm 2 none al n X [.ref a0, .int x1] M none M1 := by
  refine AM.of false (by decide +kernel) (by intro h; cases h) (Nat.le_of_ble_eq_true rfl) ?_
  have h2 : T_X6_blameTerm_0 (fun v2 M2 => some (v2, M2) = some (v, M1)) (none = some (v, M1)) n a0 x1 M := (n_X6_blameTerm_0 (fun o => o = some (v, M1)) (fun v M => some (v, M)) none n a0 x1 M).mp h
  have h3 : ((none : Option (Unit × Mem)) = some (v, M1)) = False := eq_false (by intro q; cases q)
  rw [h3] at h2
  exact w_X6_blameTerm_0 (fun v2 M2 h => by cases h; exact ⟨rfl, rfl⟩) h2

noncomputable abbrev f_X6_blameTerm := b_X6_blameTerm
theorem s_X6_blameTerm {X : Nat × (Nat → Int32)} {al : Bool} {n : Nat} {a0 : Nat} {x1 : Int32} {M : Mem} {v : Unit} {M1 : Mem} (h : f_X6_blameTerm n a0 x1 M = some (v, M1)) : AE yX6_blameTerm cX6_blameTerm 2 none al n X [.ref a0, .int x1] M none M1 := sb_X6_blameTerm h
set_option maxHeartbeats 4000000 in
set_option maxRecDepth 100000 in
noncomputable def T_X9_takeOver_0.{u} {α : Sort u} (R : Unit → Mem → α) (N : α) (n : Nat) (a0 : Nat) (a1 : Nat) (M : Mem) : α := gd (fO M a1 9) N (if (M.2.2.1 a1 2) < 0 then R () M else if 200 < (M.2.2.1 a1 2) then R () M else bnd (M.2.2.2.2 a1 0) N (fun r5 => gd (fO M a0 9) N (bnd (M.2.2.2.2 a0 0) N (fun r9 => gd (fC M r5 0 r9 0 (M.2.2.1 a1 2) n) N (gd (fO (cpM M r5 0 r9 0 (M.2.2.1 a1 2)) a1 9) N (bnd ((cpM M r5 0 r9 0 (M.2.2.1 a1 2)).2.2.2.2 a1 1) N (fun r14 => gd (fO (cpM M r5 0 r9 0 (M.2.2.1 a1 2)) a0 9) N (bnd ((cpM M r5 0 r9 0 (M.2.2.1 a1 2)).2.2.2.2 a0 1) N (fun r18 => gd (fC (cpM M r5 0 r9 0 (M.2.2.1 a1 2)) r14 0 r18 0 ((cpM M r5 0 r9 0 (M.2.2.1 a1 2)).2.2.1 a1 2) n) N (gd (fO (cpM (cpM M r5 0 r9 0 (M.2.2.1 a1 2)) r14 0 r18 0 ((cpM M r5 0 r9 0 (M.2.2.1 a1 2)).2.2.1 a1 2)) a1 9) N (gd (fO (cpM (cpM M r5 0 r9 0 (M.2.2.1 a1 2)) r14 0 r18 0 ((cpM M r5 0 r9 0 (M.2.2.1 a1 2)).2.2.1 a1 2)) a0 9) N (R () (wI (wI (cpM (cpM M r5 0 r9 0 (M.2.2.1 a1 2)) r14 0 r18 0 ((cpM M r5 0 r9 0 (M.2.2.1 a1 2)).2.2.1 a1 2)) a0 2 ((cpM (cpM M r5 0 r9 0 (M.2.2.1 a1 2)) r14 0 r18 0 ((cpM M r5 0 r9 0 (M.2.2.1 a1 2)).2.2.1 a1 2)).2.2.1 a1 2)) a0 3 0)))))))))))))
set_option maxHeartbeats 4000000 in
set_option maxRecDepth 100000 in
theorem n_X9_takeOver_0.{u, v} {α : Sort u} {β : Sort v} (h : α → β) (R : Unit → Mem → α) (N : α) (n : Nat) (a0 : Nat) (a1 : Nat) (M : Mem) : h (T_X9_takeOver_0 R N n a0 a1 M) = T_X9_takeOver_0 (fun v M => h (R v M)) (h N) n a0 a1 M := by
  simp only [T_X9_takeOver_0, nat_ite h, nat_gd h, nat_bnd h, nat_bnd2 h]
set_option maxHeartbeats 4000000 in
set_option maxRecDepth 100000 in
theorem w_X9_takeOver_0 {X : Nat × (Nat → Int32)} {al : Bool} {n : Nat} {Q : Option Value → Mem → Prop} {R : Unit → Mem → Prop} (hR : ∀ v M, R v M → Q none M) {a0 : Nat} {a1 : Nat} {M : Mem} (h : T_X9_takeOver_0 R False n a0 a1 M) : AW X (RX9, cX9_takeOver, 2, none, false, al, n) 0 0 0 [(0, .ref a0), (1, .ref a1)] [] M Q := by
  unfold T_X9_takeOver_0 at h
  refine a_aload_n dX9_takeOver_0 rfl rfl ?_
  obtain ⟨⟨ga1, gs2⟩, h⟩ := gd_t h
  refine a_get (v := .int (M.2.2.1 a1 2)) dX9_takeOver_1 fl_9_18 ga1 gs2 rfl ?_
  refine a_if_lt 64 dX9_takeOver_4 (by decide) (fun c3 => ?_) (fun c3 => ?_)
  · replace h := ite_t c3 h
    exact a_vret dX9_takeOver_64 rfl (hR _ _ h)
  · replace h := ite_f c3 h
    refine a_aload_n dX9_takeOver_7 rfl rfl ?_
    refine a_get (v := .int (M.2.2.1 a1 2)) dX9_takeOver_8 fl_9_18 ga1 gs2 rfl ?_
    refine a_sipush (v := 200) dX9_takeOver_11 (by decide) ?_
    refine a_icmp_gt 64 dX9_takeOver_14 (by decide) (fun c4 => ?_) (fun c4 => ?_)
    · replace h := ite_t c4 h
      exact a_vret dX9_takeOver_64 rfl (hR _ _ h)
    · replace h := ite_f c4 h
      refine a_aload_n dX9_takeOver_17 rfl rfl ?_
      obtain ⟨r5, e6, h⟩ := bnd_t h
      refine a_get (v := .ref r5) dX9_takeOver_18 fl_9_9 ga1 gs2 (gvR e6 rfl) ?_
      refine a_iconst (v := 0) dX9_takeOver_21 (by decide) ?_
      refine a_aload_n dX9_takeOver_22 rfl rfl ?_
      obtain ⟨⟨ga7, gs8⟩, h⟩ := gd_t h
      obtain ⟨r9, e10, h⟩ := bnd_t h
      refine a_get (v := .ref r9) dX9_takeOver_23 fl_9_9 ga7 gs8 (gvR e10 rfl) ?_
      refine a_iconst (v := 0) dX9_takeOver_26 (by decide) ?_
      refine a_aload_n dX9_takeOver_27 rfl rfl ?_
      refine a_get (v := .int (M.2.2.1 a1 2)) dX9_takeOver_28 fl_9_18 ga1 gs2 rfl ?_
      obtain ⟨gc11, h⟩ := gd_t h
      refine a_acopy dX9_takeOver_31 ac_X9 gc11 ?_
      refine a_aload_n dX9_takeOver_34 rfl rfl ?_
      obtain ⟨⟨ga12, gs13⟩, h⟩ := gd_t h
      obtain ⟨r14, e15, h⟩ := bnd_t h
      refine a_get (v := .ref r14) dX9_takeOver_35 fl_9_15 ga12 gs13 (gvR e15 rfl) ?_
      refine a_iconst (v := 0) dX9_takeOver_38 (by decide) ?_
      refine a_aload_n dX9_takeOver_39 rfl rfl ?_
      obtain ⟨⟨ga16, gs17⟩, h⟩ := gd_t h
      obtain ⟨r18, e19, h⟩ := bnd_t h
      refine a_get (v := .ref r18) dX9_takeOver_40 fl_9_15 ga16 gs17 (gvR e19 rfl) ?_
      refine a_iconst (v := 0) dX9_takeOver_43 (by decide) ?_
      refine a_aload_n dX9_takeOver_44 rfl rfl ?_
      refine a_get (v := .int ((cpM M r5 0 r9 0 (M.2.2.1 a1 2)).2.2.1 a1 2)) dX9_takeOver_45 fl_9_18 ga12 gs13 rfl ?_
      obtain ⟨gc20, h⟩ := gd_t h
      refine a_acopy dX9_takeOver_48 ac_X9 gc20 ?_
      refine a_aload_n dX9_takeOver_51 rfl rfl ?_
      refine a_aload_n dX9_takeOver_52 rfl rfl ?_
      obtain ⟨⟨ga21, gs22⟩, h⟩ := gd_t h
      refine a_get (v := .int ((cpM (cpM M r5 0 r9 0 (M.2.2.1 a1 2)) r14 0 r18 0 ((cpM M r5 0 r9 0 (M.2.2.1 a1 2)).2.2.1 a1 2)).2.2.1 a1 2)) dX9_takeOver_53 fl_9_18 ga21 gs22 rfl ?_
      obtain ⟨⟨ga23, gs24⟩, h⟩ := gd_t h
      refine a_putI dX9_takeOver_56 (Or.inl ⟨fl_9_18, Or.inl rfl⟩) rfl ga23 gs24 rfl rfl ?_
      refine a_aload_n dX9_takeOver_59 rfl rfl ?_
      refine a_iconst (v := 0) dX9_takeOver_60 (by decide) ?_
      refine a_putI dX9_takeOver_61 (Or.inl ⟨fl_9_22, Or.inl rfl⟩) rfl ga23 gs24 rfl rfl ?_
      exact a_vret dX9_takeOver_64 rfl (hR _ _ h)
noncomputable def b_X9_takeOver (n : Nat) (a0 : Nat) (a1 : Nat) (M : Mem) : Option (Unit × Mem) := T_X9_takeOver_0 (fun v M => some (v, M)) none n a0 a1 M
set_option maxHeartbeats 4000000 in
set_option maxRecDepth 100000 in
theorem sb_X9_takeOver {X : Nat × (Nat → Int32)} {al : Bool} {n : Nat} {a0 : Nat} {a1 : Nat} {M : Mem} {v : Unit} {M1 : Mem} (h : b_X9_takeOver n a0 a1 M = some (v, M1)) : AE yX9_takeOver cX9_takeOver 2 none al n X [.ref a0, .ref a1] M none M1 := by
  refine AM.of false (by decide +kernel) (by intro h; cases h) (Nat.le_of_ble_eq_true rfl) ?_
  have h2 : T_X9_takeOver_0 (fun v2 M2 => some (v2, M2) = some (v, M1)) (none = some (v, M1)) n a0 a1 M := (n_X9_takeOver_0 (fun o => o = some (v, M1)) (fun v M => some (v, M)) none n a0 a1 M).mp h
  have h3 : ((none : Option (Unit × Mem)) = some (v, M1)) = False := eq_false (by intro q; cases q)
  rw [h3] at h2
  exact w_X9_takeOver_0 (fun v2 M2 h => by cases h; exact ⟨rfl, rfl⟩) h2

noncomputable abbrev f_X9_takeOver := b_X9_takeOver
theorem s_X9_takeOver {X : Nat × (Nat → Int32)} {al : Bool} {n : Nat} {a0 : Nat} {a1 : Nat} {M : Mem} {v : Unit} {M1 : Mem} (h : f_X9_takeOver n a0 a1 M = some (v, M1)) : AE yX9_takeOver cX9_takeOver 2 none al n X [.ref a0, .ref a1] M none M1 := sb_X9_takeOver h
