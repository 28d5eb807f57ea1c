/-! METHODS AS FUNCTIONS, written by wip/gen/shallow.py -/
def ix_X7_moveOut (c : Nat) : List Nat := if c = 0 then [0, 1] else if c = 53 then [0, 1, 2, 3, 4, 5] else []
def PW_X7_moveOut (X : Nat × (Nat → Int32)) (al : Bool) (n : Nat) (Q : Option Value → Mem → Prop) (c : Nat) (l : List Value) (M : Mem) : Prop := AW X (RX7, cX7_moveOut, 7, none, false, al, n) 0 0 c (List.zip (ix_X7_moveOut c) l) (l.drop (ix_X7_moveOut c).length) M Q
set_option maxHeartbeats 4000000 in
set_option maxRecDepth 100000 in
noncomputable def T_X7_moveOut_0.{u} {α : Sort u} (J : Nat → List Value → Mem → α) (R : Unit → Mem → α) (N : α) (n : Nat) (a0 : Nat) (x1 : Int32) (M : Mem) : α := gd (fO M a0 7) N (bnd (M.2.2.2.2 a0 0) N (fun r3 => gd (fO M r3 3) N (bnd2 (cal n (fun n => f_X3_depthOf n r3 x1 M)) N (fun v7 M8 => gd (fO M8 a0 7) N (bnd (M8.2.2.2.2 a0 0) N (fun r14 => gd (fO M8 r14 3) N (bnd2 (cal n (fun n => f_X3_endOf n r14 ((x1 + 1) + 1) M8)) N (fun v18 M19 => gd (fO M19 a0 7) N (bnd (M19.2.2.2.2 a0 2) N (fun r25 => gd (fO M19 r25 9) N (bnd2 (cal n (fun n => f_X9_add n r25 9 0 M19)) N (fun _ M29 => gd (fO M29 a0 7) N (bnd (M29.2.2.2.2 a0 1) N (fun r35 => bnd2 (cal n (fun n => f_X7_copyDeeper n a0 r35 ((x1 + 1) + 1) v18 0 0 M29)) N (fun _ M37 => J 53 [.ref a0, .int x1, .int (x1 + 1), .int v7, .int v18, .int 0] M37)))))))))))))))
set_option maxHeartbeats 4000000 in
set_option maxRecDepth 100000 in
theorem n_X7_moveOut_0.{u, v} {α : Sort u} {β : Sort v} (h : α → β) (J : Nat → List Value → Mem → α) (R : Unit → Mem → α) (N : α) (n : Nat) (a0 : Nat) (x1 : Int32) (M : Mem) : h (T_X7_moveOut_0 J R N n a0 x1 M) = T_X7_moveOut_0 (fun c l M => h (J c l M)) (fun v M => h (R v M)) (h N) n a0 x1 M := by
  simp only [T_X7_moveOut_0, nat_ite h, nat_gd h, nat_bnd h, nat_bnd2 h]
set_option maxHeartbeats 4000000 in
set_option maxRecDepth 100000 in
theorem w_X7_moveOut_0 {X : Nat × (Nat → Int32)} {al : Bool} {n : Nat} {Q : Option Value → Mem → Prop} {J : Nat → List Value → Mem → Prop} (hJ : ∀ c l M, J c l M → PW_X7_moveOut X al n Q c l M) {R : Unit → Mem → Prop} (hR : ∀ v M, R v M → Q none M) {a0 : Nat} {x1 : Int32} {M : Mem} (h : T_X7_moveOut_0 J R False n a0 x1 M) : AW X (RX7, cX7_moveOut, 7, none, false, al, n) 0 0 0 [(0, .ref a0), (1, .int x1)] [] M Q := by
  unfold T_X7_moveOut_0 at h
  refine a_iload_n dX7_moveOut_0 rfl rfl ?_
  refine a_iconst (v := 1) dX7_moveOut_1 (by decide) ?_
  refine a_iadd dX7_moveOut_2 ?_
  refine a_istore_n dX7_moveOut_3 rfl (Nat.le_of_ble_eq_true rfl) (lv2 := [(2, .int (x1 + 1)), (0, .ref a0), (1, .int x1)]) rfl ?_
  refine a_aload_n dX7_moveOut_4 rfl rfl ?_
  obtain ⟨⟨ga1, gs2⟩, h⟩ := gd_t h
  obtain ⟨r3, e4, h⟩ := bnd_t h
  refine a_get (v := .ref r3) dX7_moveOut_5 fl_7_27 ga1 gs2 (gvR e4 rfl) ?_
  refine a_iload_n dX7_moveOut_8 rfl rfl ?_
  obtain ⟨⟨ga5, gs6⟩, h⟩ := gd_t h
  obtain ⟨v7, M8, e9, h⟩ := bnd2_t h
  obtain ⟨n10, en11, e9⟩ := cal_t e9
  refine e_callV (As := [.int x1]) (st := []) (a := r3) (ci := 3) false dX7_moveOut_9 mw_X3_depthOf (Or.inl ⟨rfl, ml_X7_93⟩) im_X3_depthOf se_X3_depthOf (by decide) ga5 gs6 rfl (Nat.le_of_ble_eq_true rfl) en11 (s_X3_depthOf e9) ?_
  refine a_istore_n dX7_moveOut_12 rfl (Nat.le_of_ble_eq_true rfl) (lv2 := [(3, .int v7), (2, .int (x1 + 1)), (0, .ref a0), (1, .int x1)]) rfl ?_
  refine a_aload_n dX7_moveOut_13 rfl rfl ?_
  obtain ⟨⟨ga12, gs13⟩, h⟩ := gd_t h
  obtain ⟨r14, e15, h⟩ := bnd_t h
  refine a_get (v := .ref r14) dX7_moveOut_14 fl_7_27 ga12 gs13 (gvR e15 rfl) ?_
  refine a_iload_n dX7_moveOut_17 rfl rfl ?_
  refine a_iconst (v := 1) dX7_moveOut_18 (by decide) ?_
  refine a_iadd dX7_moveOut_19 ?_
  obtain ⟨⟨ga16, gs17⟩, h⟩ := gd_t h
  obtain ⟨v18, M19, e20, h⟩ := bnd2_t h
  obtain ⟨n21, en22, e20⟩ := cal_t e20
  refine e_callV (As := [.int ((x1 + 1) + 1)]) (st := []) (a := r14) (ci := 3) false dX7_moveOut_20 mw_X3_endOf (Or.inl ⟨rfl, ml_X7_58⟩) im_X3_endOf se_X3_endOf (by decide) ga16 gs17 rfl (Nat.le_of_ble_eq_true rfl) en22 (s_X3_endOf e20) ?_
  refine a_istore dX7_moveOut_23 (Nat.le_of_ble_eq_true rfl) (lv2 := [(4, .int v18), (3, .int v7), (2, .int (x1 + 1)), (0, .ref a0), (1, .int x1)]) rfl ?_
  refine a_aload_n dX7_moveOut_25 rfl rfl ?_
  obtain ⟨⟨ga23, gs24⟩, h⟩ := gd_t h
  obtain ⟨r25, e26, h⟩ := bnd_t h
  refine a_get (v := .ref r25) dX7_moveOut_26 fl_7_18 ga23 gs24 (gvR e26 rfl) ?_
  refine a_bipush (v := 9) dX7_moveOut_29 (by decide) ?_
  refine a_iconst (v := 0) dX7_moveOut_31 (by decide) ?_
  obtain ⟨⟨ga27, gs28⟩, h⟩ := gd_t h
  obtain ⟨_, M29, e30, h⟩ := bnd2_t h
  obtain ⟨n31, en32, e30⟩ := cal_t e30
  refine e_callV (As := [.int 9, .int 0]) (st := []) (a := r25) (ci := 9) false dX7_moveOut_32 mw_X9_add (Or.inl ⟨rfl, ml_X7_80⟩) im_X9_add se_X9_add (by decide) ga27 gs28 rfl (Nat.le_of_ble_eq_true rfl) en32 (s_X9_add e30) ?_
  refine a_aload_n dX7_moveOut_35 rfl rfl ?_
  refine a_aload_n dX7_moveOut_36 rfl rfl ?_
  obtain ⟨⟨ga33, gs34⟩, h⟩ := gd_t h
  obtain ⟨r35, e36, h⟩ := bnd_t h
  refine a_get (v := .ref r35) dX7_moveOut_37 fl_7_12 ga33 gs34 (gvR e36 rfl) ?_
  refine a_iload_n dX7_moveOut_40 rfl rfl ?_
  refine a_iconst (v := 1) dX7_moveOut_41 (by decide) ?_
  refine a_iadd dX7_moveOut_42 ?_
  refine a_iload dX7_moveOut_43 rfl ?_
  refine a_iconst (v := 0) dX7_moveOut_45 (by decide) ?_
  refine a_iconst (v := 0) dX7_moveOut_46 (by decide) ?_
  obtain ⟨_, M37, e38, h⟩ := bnd2_t h
  obtain ⟨n39, en40, e38⟩ := cal_t e38
  refine e_callV (As := [.ref r35, .int ((x1 + 1) + 1), .int v18, .int 0, .int 0]) (st := []) (a := a0) (ci := 7) false dX7_moveOut_47 mw_X7_copyDeeper (Or.inl ⟨rfl, ml_X7_83⟩) im_X7_copyDeeper se_X7_copyDeeper (by decide) ga33 gs34 rfl (Nat.le_of_ble_eq_true rfl) en40 (s_X7_copyDeeper e38) ?_
  refine a_iconst (v := 0) dX7_moveOut_50 (by decide) ?_
  refine a_istore dX7_moveOut_51 (Nat.le_of_ble_eq_true rfl) (lv2 := [(5, .int 0), (4, .int v18), (3, .int v7), (2, .int (x1 + 1)), (0, .ref a0), (1, .int x1)]) rfl ?_
  exact a_lv (lv2 := [(0, .ref a0), (1, .int x1), (2, .int (x1 + 1)), (3, .int v7), (4, .int v18), (5, .int 0)]) (fa_cons rfl (fa_cons rfl (fa_cons rfl (fa_cons rfl (fa_cons rfl (fa_cons rfl fa_nil)))))) (hJ _ _ _ h)
set_option maxHeartbeats 4000000 in
set_option maxRecDepth 100000 in
noncomputable def T_X7_moveOut_53.{u} {α : Sort u} (J : Nat → List Value → Mem → α) (R : Unit → Mem → α) (N : α) (n : Nat) (a0 : Nat) (x1 : Int32) (x2 : Int32) (x3 : Int32) (x4 : Int32) (x5 : Int32) (M : Mem) : α := if 2 ≤ x5 then R () M else gd (fO M a0 7) N (bnd (M.2.2.2.2 a0 0) N (fun r4 => gd (fO M r4 3) N (bnd2 (cal n (fun n => f_X3_endOf n r4 x4 M)) N (fun v8 M9 => gd (fO M9 a0 7) N (bnd (M9.2.2.2.2 a0 2) N (fun r15 => bnd (M9.2.2.2.2 a0 1) N (fun r17 => gd (fO M9 r17 9) N (bnd2 (cal n (fun n => f_X9_opAt n r17 x1 M9)) N (fun v21 M22 => gd (fO M22 a0 7) N (bnd (M22.2.2.2.2 a0 1) N (fun r28 => gd (fO M22 r28 9) N (bnd2 (cal n (fun n => f_X9_argAt n r28 x1 M22)) N (fun v32 M33 => gd (fO M33 r15 9) N (bnd2 (cal n (fun n => f_X9_add n r15 v21 v32 M33)) N (fun _ M39 => gd (fO M39 a0 7) N (bnd (M39.2.2.2.2 a0 1) N (fun r45 => bnd2 (cal n (fun n => f_X7_copyDeeper n a0 r45 x4 v8 0 0 M39)) N (fun _ M47 => gd (fO M47 a0 7) N (bnd (M47.2.2.2.2 a0 1) N (fun r53 => bnd (M47.2.2.2.2 a0 0) N (fun r55 => gd (fO M47 r55 3) N (bnd2 (cal n (fun n => f_X3_endOf n r55 x2 M47)) N (fun v59 M60 => gd (fO M60 a0 7) N (bnd (M60.2.2.2.2 a0 0) N (fun r66 => gd (fO M60 r66 3) N (bnd2 (cal n (fun n => f_X3_endOf n r66 x1 M60)) N (fun v70 M71 => gd (fO M71 a0 7) N (bnd2 (cal n (fun n => f_X7_copyDeeper n a0 r53 v59 v70 x3 1 M71)) N (fun _ M77 => J 53 [.ref a0, .int x1, .int x2, .int x3, .int v8, .int (x5 + 1)] M77)))))))))))))))))))))))))))))
set_option maxHeartbeats 4000000 in
set_option maxRecDepth 100000 in
theorem n_X7_moveOut_53.{u, v} {α : Sort u} {β : Sort v} (h : α → β) (J : Nat → List Value → Mem → α) (R : Unit → Mem → α) (N : α) (n : Nat) (a0 : Nat) (x1 : Int32) (x2 : Int32) (x3 : Int32) (x4 : Int32) (x5 : Int32) (M : Mem) : h (T_X7_moveOut_53 J R N n a0 x1 x2 x3 x4 x5 M) = T_X7_moveOut_53 (fun c l M => h (J c l M)) (fun v M => h (R v M)) (h N) n a0 x1 x2 x3 x4 x5 M := by
  simp only [T_X7_moveOut_53, nat_ite h, nat_gd h, nat_bnd h, nat_bnd2 h]
set_option maxHeartbeats 4000000 in
set_option maxRecDepth 100000 in
theorem w_X7_moveOut_53 {X : Nat × (Nat → Int32)} {al : Bool} {n : Nat} {Q : Option Value → Mem → Prop} {J : Nat → List Value → Mem → Prop} (hJ : ∀ c l M, J c l M → PW_X7_moveOut X al n Q c l M) {R : Unit → Mem → Prop} (hR : ∀ v M, R v M → Q none M) {a0 : Nat} {x1 : Int32} {x2 : Int32} {x3 : Int32} {x4 : Int32} {x5 : Int32} {M : Mem} (h : T_X7_moveOut_53 J R False n a0 x1 x2 x3 x4 x5 M) : AW X (RX7, cX7_moveOut, 7, none, false, al, n) 0 0 53 [(0, .ref a0), (1, .int x1), (2, .int x2), (3, .int x3), (4, .int x4), (5, .int x5)] [] M Q := by
  unfold T_X7_moveOut_53 at h
  refine a_iload dX7_moveOut_53 rfl ?_
  refine a_iconst (v := 2) dX7_moveOut_55 (by decide) ?_
  refine a_icmp_ge 143 dX7_moveOut_56 (by decide) (fun c1 => ?_) (fun c1 => ?_)
  · replace h := ite_t c1 h
    exact a_vret dX7_moveOut_143 rfl (hR _ _ h)
  · replace h := ite_f c1 h
    refine a_aload_n dX7_moveOut_59 rfl rfl ?_
    obtain ⟨⟨ga2, gs3⟩, h⟩ := gd_t h
    obtain ⟨r4, e5, h⟩ := bnd_t h
    refine a_get (v := .ref r4) dX7_moveOut_60 fl_7_27 ga2 gs3 (gvR e5 rfl) ?_
    refine a_iload dX7_moveOut_63 rfl ?_
    obtain ⟨⟨ga6, gs7⟩, h⟩ := gd_t h
    obtain ⟨v8, M9, e10, h⟩ := bnd2_t h
    obtain ⟨n11, en12, e10⟩ := cal_t e10
    refine e_callV (As := [.int x4]) (st := []) (a := r4) (ci := 3) false dX7_moveOut_65 mw_X3_endOf (Or.inl ⟨rfl, ml_X7_58⟩) im_X3_endOf se_X3_endOf (by decide) ga6 gs7 rfl (Nat.le_of_ble_eq_true rfl) en12 (s_X3_endOf e10) ?_
    refine a_istore dX7_moveOut_68 (Nat.le_of_ble_eq_true rfl) (lv2 := [(6, .int v8), (0, .ref a0), (1, .int x1), (2, .int x2), (3, .int x3), (4, .int x4), (5, .int x5)]) rfl ?_
    refine a_aload_n dX7_moveOut_70 rfl rfl ?_
    obtain ⟨⟨ga13, gs14⟩, h⟩ := gd_t h
    obtain ⟨r15, e16, h⟩ := bnd_t h
    refine a_get (v := .ref r15) dX7_moveOut_71 fl_7_18 ga13 gs14 (gvR e16 rfl) ?_
    refine a_aload_n dX7_moveOut_74 rfl rfl ?_
    obtain ⟨r17, e18, h⟩ := bnd_t h
    refine a_get (v := .ref r17) dX7_moveOut_75 fl_7_12 ga13 gs14 (gvR e18 rfl) ?_
    refine a_iload_n dX7_moveOut_78 rfl rfl ?_
    obtain ⟨⟨ga19, gs20⟩, h⟩ := gd_t h
    obtain ⟨v21, M22, e23, h⟩ := bnd2_t h
    obtain ⟨n24, en25, e23⟩ := cal_t e23
    refine e_callV (As := [.int x1]) (st := [.ref r15]) (a := r17) (ci := 9) false dX7_moveOut_79 mw_X9_opAt (Or.inl ⟨rfl, ml_X7_90⟩) im_X9_opAt se_X9_opAt (by decide) ga19 gs20 rfl (Nat.le_of_ble_eq_true rfl) en25 (s_X9_opAt e23) ?_
    refine a_aload_n dX7_moveOut_82 rfl rfl ?_
    obtain ⟨⟨ga26, gs27⟩, h⟩ := gd_t h
    obtain ⟨r28, e29, h⟩ := bnd_t h
    refine a_get (v := .ref r28) dX7_moveOut_83 fl_7_12 ga26 gs27 (gvR e29 rfl) ?_
    refine a_iload_n dX7_moveOut_86 rfl rfl ?_
    obtain ⟨⟨ga30, gs31⟩, h⟩ := gd_t h
    obtain ⟨v32, M33, e34, h⟩ := bnd2_t h
    obtain ⟨n35, en36, e34⟩ := cal_t e34
    refine e_callV (As := [.int x1]) (st := [.int v21, .ref r15]) (a := r28) (ci := 9) false dX7_moveOut_87 mw_X9_argAt (Or.inl ⟨rfl, ml_X7_87⟩) im_X9_argAt se_X9_argAt (by decide) ga30 gs31 rfl (Nat.le_of_ble_eq_true rfl) en36 (s_X9_argAt e34) ?_
    obtain ⟨⟨ga37, gs38⟩, h⟩ := gd_t h
    obtain ⟨_, M39, e40, h⟩ := bnd2_t h
    obtain ⟨n41, en42, e40⟩ := cal_t e40
    refine e_callV (As := [.int v21, .int v32]) (st := []) (a := r15) (ci := 9) false dX7_moveOut_90 mw_X9_add (Or.inl ⟨rfl, ml_X7_80⟩) im_X9_add se_X9_add (by decide) ga37 gs38 rfl (Nat.le_of_ble_eq_true rfl) en42 (s_X9_add e40) ?_
    refine a_aload_n dX7_moveOut_93 rfl rfl ?_
    refine a_aload_n dX7_moveOut_94 rfl rfl ?_
    obtain ⟨⟨ga43, gs44⟩, h⟩ := gd_t h
    obtain ⟨r45, e46, h⟩ := bnd_t h
    refine a_get (v := .ref r45) dX7_moveOut_95 fl_7_12 ga43 gs44 (gvR e46 rfl) ?_
    refine a_iload dX7_moveOut_98 rfl ?_
    refine a_iload dX7_moveOut_100 rfl ?_
    refine a_iconst (v := 0) dX7_moveOut_102 (by decide) ?_
    refine a_iconst (v := 0) dX7_moveOut_103 (by decide) ?_
    obtain ⟨_, M47, e48, h⟩ := bnd2_t h
    obtain ⟨n49, en50, e48⟩ := cal_t e48
    refine e_callV (As := [.ref r45, .int x4, .int v8, .int 0, .int 0]) (st := []) (a := a0) (ci := 7) false dX7_moveOut_104 mw_X7_copyDeeper (Or.inl ⟨rfl, ml_X7_83⟩) im_X7_copyDeeper se_X7_copyDeeper (by decide) ga43 gs44 rfl (Nat.le_of_ble_eq_true rfl) en50 (s_X7_copyDeeper e48) ?_
    refine a_aload_n dX7_moveOut_107 rfl rfl ?_
    refine a_aload_n dX7_moveOut_108 rfl rfl ?_
    obtain ⟨⟨ga51, gs52⟩, h⟩ := gd_t h
    obtain ⟨r53, e54, h⟩ := bnd_t h
    refine a_get (v := .ref r53) dX7_moveOut_109 fl_7_12 ga51 gs52 (gvR e54 rfl) ?_
    refine a_aload_n dX7_moveOut_112 rfl rfl ?_
    obtain ⟨r55, e56, h⟩ := bnd_t h
    refine a_get (v := .ref r55) dX7_moveOut_113 fl_7_27 ga51 gs52 (gvR e56 rfl) ?_
    refine a_iload_n dX7_moveOut_116 rfl rfl ?_
    obtain ⟨⟨ga57, gs58⟩, h⟩ := gd_t h
    obtain ⟨v59, M60, e61, h⟩ := bnd2_t h
    obtain ⟨n62, en63, e61⟩ := cal_t e61
    refine e_callV (As := [.int x2]) (st := [.ref r53, .ref a0]) (a := r55) (ci := 3) false dX7_moveOut_117 mw_X3_endOf (Or.inl ⟨rfl, ml_X7_58⟩) im_X3_endOf se_X3_endOf (by decide) ga57 gs58 rfl (Nat.le_of_ble_eq_true rfl) en63 (s_X3_endOf e61) ?_
    refine a_aload_n dX7_moveOut_120 rfl rfl ?_
    obtain ⟨⟨ga64, gs65⟩, h⟩ := gd_t h
    obtain ⟨r66, e67, h⟩ := bnd_t h
    refine a_get (v := .ref r66) dX7_moveOut_121 fl_7_27 ga64 gs65 (gvR e67 rfl) ?_
    refine a_iload_n dX7_moveOut_124 rfl rfl ?_
    obtain ⟨⟨ga68, gs69⟩, h⟩ := gd_t h
    obtain ⟨v70, M71, e72, h⟩ := bnd2_t h
    obtain ⟨n73, en74, e72⟩ := cal_t e72
    refine e_callV (As := [.int x1]) (st := [.int v59, .ref r53, .ref a0]) (a := r66) (ci := 3) false dX7_moveOut_125 mw_X3_endOf (Or.inl ⟨rfl, ml_X7_58⟩) im_X3_endOf se_X3_endOf (by decide) ga68 gs69 rfl (Nat.le_of_ble_eq_true rfl) en74 (s_X3_endOf e72) ?_
    refine a_iload_n dX7_moveOut_128 rfl rfl ?_
    refine a_iconst (v := 1) dX7_moveOut_129 (by decide) ?_
    obtain ⟨⟨ga75, gs76⟩, h⟩ := gd_t h
    obtain ⟨_, M77, e78, h⟩ := bnd2_t h
    obtain ⟨n79, en80, e78⟩ := cal_t e78
    refine e_callV (As := [.ref r53, .int v59, .int v70, .int x3, .int 1]) (st := []) (a := a0) (ci := 7) false dX7_moveOut_130 mw_X7_copyDeeper (Or.inl ⟨rfl, ml_X7_83⟩) im_X7_copyDeeper se_X7_copyDeeper (by decide) ga75 gs76 rfl (Nat.le_of_ble_eq_true rfl) en80 (s_X7_copyDeeper e78) ?_
    refine a_iload dX7_moveOut_133 rfl ?_
    refine a_istore dX7_moveOut_135 (Nat.le_of_ble_eq_true rfl) (lv2 := [(4, .int v8), (6, .int v8), (0, .ref a0), (1, .int x1), (2, .int x2), (3, .int x3), (5, .int x5)]) rfl ?_
    refine a_iinc (v := (x5 + 1)) dX7_moveOut_137 rfl (by first | rfl | decide) (Nat.le_of_ble_eq_true rfl) (lv2 := [(5, .int (x5 + 1)), (4, .int v8), (6, .int v8), (0, .ref a0), (1, .int x1), (2, .int x2), (3, .int x3)]) rfl ?_
    refine a_goto 53 dX7_moveOut_140 (by decide) ?_
    exact a_lv (lv2 := [(0, .ref a0), (1, .int x1), (2, .int x2), (3, .int x3), (4, .int v8), (5, .int (x5 + 1))]) (fa_cons rfl (fa_cons rfl (fa_cons rfl (fa_cons rfl (fa_cons rfl (fa_cons rfl fa_nil)))))) (hJ _ _ _ h)
set_option maxHeartbeats 4000000 in
set_option maxRecDepth 100000 in
noncomputable def st_X7_moveOut (n : Nat) (s : Sg) : Option (Sg ⊕ (Unit × Mem)) := if s.1 = 0 then vR s.2.1 none (fun a0 t => vI t none (fun x1 t => vE t none (T_X7_moveOut_0 (fun c l M => some (.inl (c, l, M))) (fun v M => some (.inr (v, M))) none n a0 x1 s.2.2))) else if s.1 = 53 then vR s.2.1 none (fun a0 t => vI t none (fun x1 t => vI t none (fun x2 t => vI t none (fun x3 t => vI t none (fun x4 t => vI t none (fun x5 t => vE t none (T_X7_moveOut_53 (fun c l M => some (.inl (c, l, M))) (fun v M => some (.inr (v, M))) none n a0 x1 x2 x3 x4 x5 s.2.2))))))) else none
noncomputable abbrev g_X7_moveOut_0 (n : Nat) (a0 : Nat) (x1 : Int32) (M : Mem) : Option (Unit × Mem) := lp (st_X7_moveOut n) (0, [.ref a0, .int x1], M)
set_option maxHeartbeats 4000000 in
set_option maxRecDepth 100000 in
theorem ge_X7_moveOut_0 (n : Nat) (a0 : Nat) (x1 : Int32) (M : Mem) : g_X7_moveOut_0 n a0 x1 M = T_X7_moveOut_0 (fun c l M => lp (st_X7_moveOut n) (c, l, M)) (fun v M => some (v, M)) none n a0 x1 M := (lp_eq _ _).trans (n_X7_moveOut_0 (lpK (st_X7_moveOut n)) (fun c l M => some (.inl (c, l, M))) (fun v M => some (.inr (v, M))) none n a0 x1 M)
noncomputable abbrev g_X7_moveOut_53 (n : Nat) (a0 : Nat) (x1 : Int32) (x2 : Int32) (x3 : Int32) (x4 : Int32) (x5 : Int32) (M : Mem) : Option (Unit × Mem) := lp (st_X7_moveOut n) (53, [.ref a0, .int x1, .int x2, .int x3, .int x4, .int x5], M)
set_option maxHeartbeats 4000000 in
set_option maxRecDepth 100000 in
theorem ge_X7_moveOut_53 (n : Nat) (a0 : Nat) (x1 : Int32) (x2 : Int32) (x3 : Int32) (x4 : Int32) (x5 : Int32) (M : Mem) : g_X7_moveOut_53 n a0 x1 x2 x3 x4 x5 M = T_X7_moveOut_53 (fun c l M => lp (st_X7_moveOut n) (c, l, M)) (fun v M => some (v, M)) none n a0 x1 x2 x3 x4 x5 M := (lp_eq _ _).trans (n_X7_moveOut_53 (lpK (st_X7_moveOut n)) (fun c l M => some (.inl (c, l, M))) (fun v M => some (.inr (v, M))) none n a0 x1 x2 x3 x4 x5 M)
noncomputable def b_X7_moveOut (n : Nat) (a0 : Nat) (x1 : Int32) (M : Mem) : Option (Unit × Mem) := g_X7_moveOut_0 n a0 x1 M
set_option maxHeartbeats 4000000 in
set_option maxRecDepth 100000 in
theorem sb_X7_moveOut {X : Nat × (Nat → Int32)} {al : Bool} {n : Nat} {a0 : Nat} {x1 : Int32} {M : Mem} {v : Unit} {M1 : Mem} (h : b_X7_moveOut n a0 x1 M = some (v, M1)) : AE yX7_moveOut cX7_moveOut 7 none al n X [.ref a0, .int x1] M none M1 := by
  refine AM.of false (by decide +kernel) (by intro h; cases h) (Nat.le_of_ble_eq_true rfl) ?_
  refine lp_snd (P := fun s r => PW_X7_moveOut X al n (fun v M2 => v = none ∧ M2 = r.2) s.1 s.2.1 s.2.2) ?_ h
  clear h
  rintro ⟨c, l, M⟩ r h
  unfold st_X7_moveOut at h
  rcases ite_p h with ⟨e, h⟩ | ⟨e, h⟩
  · replace e : c = 0 := e
    subst e
    obtain ⟨a0, tt0, e, h⟩ := vR_p id h
    replace e : l = _ := e
    subst e
    obtain ⟨x1, tt1, e, h⟩ := vI_p id h
    replace e : tt0 = _ := e
    subst e
    obtain ⟨e, h⟩ := vE_p id h
    replace e : tt1 = [] := e
    subst e
    exact w_X7_moveOut_0 (J := fun c l M => PW_X7_moveOut X al n (fun v M2 => v = none ∧ M2 = r.2) c l M) (R := fun v M => (v, M) = r) (fun _ _ _ h => h) (fun v M h => by cases h; exact ⟨rfl, rfl⟩) ((n_X7_moveOut_0 (lpP (fun (s : Sg) (r : Unit × Mem) => PW_X7_moveOut X al n (fun v M2 => v = none ∧ M2 = r.2) s.1 s.2.1 s.2.2) r) (fun c l M => some (.inl (c, l, M))) (fun v M => some (.inr (v, M))) none n a0 x1 M).mp h)
  rcases ite_p h with ⟨e, h⟩ | ⟨e, h⟩
  · replace e : c = 53 := e
    subst e
    obtain ⟨a0, tt0, e, h⟩ := vR_p id h
    replace e : l = _ := e
    subst e
    obtain ⟨x1, tt1, e, h⟩ := vI_p id h
    replace e : tt0 = _ := e
    subst e
    obtain ⟨x2, tt2, e, h⟩ := vI_p id h
    replace e : tt1 = _ := e
    subst e
    obtain ⟨x3, tt3, e, h⟩ := vI_p id h
    replace e : tt2 = _ := e
    subst e
    obtain ⟨x4, tt4, e, h⟩ := vI_p id h
    replace e : tt3 = _ := e
    subst e
    obtain ⟨x5, tt5, e, h⟩ := vI_p id h
    replace e : tt4 = _ := e
    subst e
    obtain ⟨e, h⟩ := vE_p id h
    replace e : tt5 = [] := e
    subst e
    exact w_X7_moveOut_53 (J := fun c l M => PW_X7_moveOut X al n (fun v M2 => v = none ∧ M2 = r.2) c l M) (R := fun v M => (v, M) = r) (fun _ _ _ h => h) (fun v M h => by cases h; exact ⟨rfl, rfl⟩) ((n_X7_moveOut_53 (lpP (fun (s : Sg) (r : Unit × Mem) => PW_X7_moveOut X al n (fun v M2 => v = none ∧ M2 = r.2) s.1 s.2.1 s.2.2) r) (fun c l M => some (.inl (c, l, M))) (fun v M => some (.inr (v, M))) none n a0 x1 x2 x3 x4 x5 M).mp h)
  · exact h.elim

noncomputable abbrev f_X7_moveOut := b_X7_moveOut
theorem s_X7_moveOut {X : Nat × (Nat → Int32)} {al : Bool} {n : Nat} {a0 : Nat} {x1 : Int32} {M : Mem} {v : Unit} {M1 : Mem} (h : f_X7_moveOut n a0 x1 M = some (v, M1)) : AE yX7_moveOut cX7_moveOut 7 none al n X [.ref a0, .int x1] M none M1 := sb_X7_moveOut h
set_option maxHeartbeats 4000000 in
set_option maxRecDepth 100000 in
noncomputable def T_X7_contract_0.{u} {α : Sort u} (R : Unit → Mem → α) (N : α) (n : Nat) (a0 : Nat) (x1 : Int32) (x2 : Int32) (M : Mem) : α := gd (fO M a0 7) N (bnd (M.2.2.2.2 a0 0) N (fun r3 => gd (fO M r3 3) N (bnd2 (cal n (fun n => f_X3_endOf n r3 (x1 + 1) M)) N (fun v7 M8 => gd (fO M8 a0 7) N (bnd (M8.2.2.2.2 a0 0) N (fun r14 => gd (fO M8 r14 3) N (bnd2 (cal n (fun n => f_X3_endOf n r14 (x1 + 2) M8)) N (fun v18 M19 => if x2 = 1 then gd (fO M19 a0 7) N (bnd (M19.2.2.2.2 a0 0) N (fun r26 => gd (fO M19 r26 3) N (bnd2 (cal n (fun n => f_X3_endOf n r26 x1 M19)) N (fun v30 M31 => gd (fO M31 a0 7) N (bnd2 (cal n (fun n => f_X7_putFor n a0 x1 (x1 + 2) v7 v30 M31)) N (fun _ M37 => R () M37)))))) else if x2 = 2 then gd (fO M19 a0 7) N (bnd2 (cal n (fun n => f_X7_copyPlain n a0 (x1 + 2) v18 M19)) N (fun _ M44 => R () M44)) else if x2 = 3 then gd (fO M19 a0 7) N (bnd2 (cal n (fun n => f_X7_copyPlain n a0 v18 v7 M19)) N (fun _ M51 => R () M51)) else if x2 = 4 then gd (fO M19 a0 7) N (bnd2 (cal n (fun n => f_X7_putFor n a0 x1 v7 (x1 + 2) v7 M19)) N (fun _ M58 => R () M58)) else if x2 = 5 then gd (fO M19 a0 7) N (bnd (M19.2.2.2.2 a0 0) N (fun r65 => gd (fO M19 r65 3) N (bnd2 (cal n (fun n => f_X3_endOf n r65 v7 M19)) N (fun v69 M70 => gd (fO M70 a0 7) N (bnd2 (cal n (fun n => f_X7_putFor n a0 x1 v69 (x1 + 2) v7 M70)) N (fun _ M76 => R () M76)))))) else if x2 = 6 then gd (fO M19 a0 7) N (bnd2 (cal n (fun n => f_X7_moveOut n a0 x1 M19)) N (fun _ M83 => R () M83)) else gd (fO M19 a0 7) N (bnd (M19.2.2.2.2 a0 2) N (fun r89 => bnd (M19.2.2.2.2 a0 0) N (fun r91 => gd (fO M19 r91 3) N (bnd2 (cal n (fun n => f_X3_typeOf n r91 x1 M19)) N (fun v95 M96 => gd (fO M96 r89 9) N (bnd2 (cal n (fun n => f_X9_add n r89 10 v95 M96)) N (fun _ M102 => gd (fO M102 a0 7) N (bnd2 (cal n (fun n => f_X7_copyPlain n a0 (x1 + 2) v7 M102)) N (fun _ M108 => R () M108)))))))))))))))))
set_option maxHeartbeats 4000000 in
set_option maxRecDepth 100000 in
theorem n_X7_contract_0.{u, v} {α : Sort u} {β : Sort v} (h : α → β) (R : Unit → Mem → α) (N : α) (n : Nat) (a0 : Nat) (x1 : Int32) (x2 : Int32) (M : Mem) : h (T_X7_contract_0 R N n a0 x1 x2 M) = T_X7_contract_0 (fun v M => h (R v M)) (h N) n a0 x1 x2 M := by
  simp only [T_X7_contract_0, nat_ite h, nat_gd h, nat_bnd h, nat_bnd2 h]
set_option maxHeartbeats 4000000 in
set_option maxRecDepth 100000 in
theorem w_X7_contract_0 {X : Nat × (Nat → Int32)} {al : Bool} {n : Nat} {Q : Option Value → Mem → Prop} {R : Unit → Mem → Prop} (hR : ∀ v M, R v M → Q none M) {a0 : Nat} {x1 : Int32} {x2 : Int32} {M : Mem} (h : T_X7_contract_0 R False n a0 x1 x2 M) : AW X (RX7, cX7_contract, 7, none, false, al, n) 0 0 0 [(0, .ref a0), (1, .int x1), (2, .int x2)] [] M Q := by
  unfold T_X7_contract_0 at h
  refine a_iload_n dX7_contract_0 rfl rfl ?_
  refine a_iconst (v := 1) dX7_contract_1 (by decide) ?_
  refine a_iadd dX7_contract_2 ?_
  refine a_istore_n dX7_contract_3 rfl (Nat.le_of_ble_eq_true rfl) (lv2 := [(3, .int (x1 + 1)), (0, .ref a0), (1, .int x1), (2, .int x2)]) rfl ?_
  refine a_iload_n dX7_contract_4 rfl rfl ?_
  refine a_iconst (v := 2) dX7_contract_5 (by decide) ?_
  refine a_iadd dX7_contract_6 ?_
  refine a_istore dX7_contract_7 (Nat.le_of_ble_eq_true rfl) (lv2 := [(4, .int (x1 + 2)), (3, .int (x1 + 1)), (0, .ref a0), (1, .int x1), (2, .int x2)]) rfl ?_
  refine a_aload_n dX7_contract_9 rfl rfl ?_
  obtain ⟨⟨ga1, gs2⟩, h⟩ := gd_t h
  obtain ⟨r3, e4, h⟩ := bnd_t h
  refine a_get (v := .ref r3) dX7_contract_10 fl_7_27 ga1 gs2 (gvR e4 rfl) ?_
  refine a_iload_n dX7_contract_13 rfl rfl ?_
  obtain ⟨⟨ga5, gs6⟩, h⟩ := gd_t h
  obtain ⟨v7, M8, e9, h⟩ := bnd2_t h
  obtain ⟨n10, en11, e9⟩ := cal_t e9
  refine e_callV (As := [.int (x1 + 1)]) (st := []) (a := r3) (ci := 3) false dX7_contract_14 mw_X3_endOf (Or.inl ⟨rfl, ml_X7_58⟩) im_X3_endOf se_X3_endOf (by decide) ga5 gs6 rfl (Nat.le_of_ble_eq_true rfl) en11 (s_X3_endOf e9) ?_
  refine a_istore dX7_contract_17 (Nat.le_of_ble_eq_true rfl) (lv2 := [(5, .int v7), (4, .int (x1 + 2)), (3, .int (x1 + 1)), (0, .ref a0), (1, .int x1), (2, .int x2)]) rfl ?_
  refine a_aload_n dX7_contract_19 rfl rfl ?_
  obtain ⟨⟨ga12, gs13⟩, h⟩ := gd_t h
  obtain ⟨r14, e15, h⟩ := bnd_t h
  refine a_get (v := .ref r14) dX7_contract_20 fl_7_27 ga12 gs13 (gvR e15 rfl) ?_
  refine a_iload dX7_contract_23 rfl ?_
  obtain ⟨⟨ga16, gs17⟩, h⟩ := gd_t h
  obtain ⟨v18, M19, e20, h⟩ := bnd2_t h
  obtain ⟨n21, en22, e20⟩ := cal_t e20
  refine e_callV (As := [.int (x1 + 2)]) (st := []) (a := r14) (ci := 3) false dX7_contract_25 mw_X3_endOf (Or.inl ⟨rfl, ml_X7_58⟩) im_X3_endOf se_X3_endOf (by decide) ga16 gs17 rfl (Nat.le_of_ble_eq_true rfl) en22 (s_X3_endOf e20) ?_
  refine a_istore dX7_contract_28 (Nat.le_of_ble_eq_true rfl) (lv2 := [(6, .int v18), (5, .int v7), (4, .int (x1 + 2)), (3, .int (x1 + 1)), (0, .ref a0), (1, .int x1), (2, .int x2)]) rfl ?_
  refine a_iload_n dX7_contract_30 rfl rfl ?_
  by_cases c23 : x2 = 1
  · replace h := ite_t c23 h
    refine a_tableIn (off := 37) 68 dX7_contract_31 (by rw [c23]; decide) (by rw [c23]; decide) (by rw [c23]; rfl) (by decide) ?_
    refine a_aload_n dX7_contract_68 rfl rfl ?_
    refine a_iload_n dX7_contract_69 rfl rfl ?_
    refine a_iload dX7_contract_70 rfl ?_
    refine a_iload dX7_contract_72 rfl ?_
    refine a_aload_n dX7_contract_74 rfl rfl ?_
    obtain ⟨⟨ga24, gs25⟩, h⟩ := gd_t h
    obtain ⟨r26, e27, h⟩ := bnd_t h
    refine a_get (v := .ref r26) dX7_contract_75 fl_7_27 ga24 gs25 (gvR e27 rfl) ?_
    refine a_iload_n dX7_contract_78 rfl rfl ?_
    obtain ⟨⟨ga28, gs29⟩, h⟩ := gd_t h
    obtain ⟨v30, M31, e32, h⟩ := bnd2_t h
    obtain ⟨n33, en34, e32⟩ := cal_t e32
    refine e_callV (As := [.int x1]) (st := [.int v7, .int (x1 + 2), .int x1, .ref a0]) (a := r26) (ci := 3) false dX7_contract_79 mw_X3_endOf (Or.inl ⟨rfl, ml_X7_58⟩) im_X3_endOf se_X3_endOf (by decide) ga28 gs29 rfl (Nat.le_of_ble_eq_true rfl) en34 (s_X3_endOf e32) ?_
    obtain ⟨⟨ga35, gs36⟩, h⟩ := gd_t h
    obtain ⟨_, M37, e38, h⟩ := bnd2_t h
    obtain ⟨n39, en40, e38⟩ := cal_t e38
    refine e_callV (As := [.int x1, .int (x1 + 2), .int v7, .int v30]) (st := []) (a := a0) (ci := 7) false dX7_contract_82 mw_X7_putFor (Or.inl ⟨rfl, ml_X7_69⟩) im_X7_putFor se_X7_putFor (by decide) ga35 gs36 rfl (Nat.le_of_ble_eq_true rfl) en40 (s_X7_putFor e38) ?_
    refine a_goto 178 dX7_contract_85 (by decide) ?_
    exact a_vret dX7_contract_178 rfl (hR _ _ h)
  replace h := ite_f c23 h
  by_cases c41 : x2 = 2
  · replace h := ite_t c41 h
    refine a_tableIn (off := 57) 88 dX7_contract_31 (by rw [c41]; decide) (by rw [c41]; decide) (by rw [c41]; rfl) (by decide) ?_
    refine a_aload_n dX7_contract_88 rfl rfl ?_
    refine a_iload dX7_contract_89 rfl ?_
    refine a_iload dX7_contract_91 rfl ?_
    obtain ⟨⟨ga42, gs43⟩, h⟩ := gd_t h
    obtain ⟨_, M44, e45, h⟩ := bnd2_t h
    obtain ⟨n46, en47, e45⟩ := cal_t e45
    refine e_callV (As := [.int (x1 + 2), .int v18]) (st := []) (a := a0) (ci := 7) false dX7_contract_93 mw_X7_copyPlain (Or.inl ⟨rfl, ml_X7_51⟩) im_X7_copyPlain se_X7_copyPlain (by decide) ga42 gs43 rfl (Nat.le_of_ble_eq_true rfl) en47 (s_X7_copyPlain e45) ?_
    refine a_goto 178 dX7_contract_96 (by decide) ?_
    exact a_vret dX7_contract_178 rfl (hR _ _ h)
  replace h := ite_f c41 h
  by_cases c48 : x2 = 3
  · replace h := ite_t c48 h
    refine a_tableIn (off := 68) 99 dX7_contract_31 (by rw [c48]; decide) (by rw [c48]; decide) (by rw [c48]; rfl) (by decide) ?_
    refine a_aload_n dX7_contract_99 rfl rfl ?_
    refine a_iload dX7_contract_100 rfl ?_
    refine a_iload dX7_contract_102 rfl ?_
    obtain ⟨⟨ga49, gs50⟩, h⟩ := gd_t h
    obtain ⟨_, M51, e52, h⟩ := bnd2_t h
    obtain ⟨n53, en54, e52⟩ := cal_t e52
    refine e_callV (As := [.int v18, .int v7]) (st := []) (a := a0) (ci := 7) false dX7_contract_104 mw_X7_copyPlain (Or.inl ⟨rfl, ml_X7_51⟩) im_X7_copyPlain se_X7_copyPlain (by decide) ga49 gs50 rfl (Nat.le_of_ble_eq_true rfl) en54 (s_X7_copyPlain e52) ?_
    refine a_goto 178 dX7_contract_107 (by decide) ?_
    exact a_vret dX7_contract_178 rfl (hR _ _ h)
  replace h := ite_f c48 h
  by_cases c55 : x2 = 4
  · replace h := ite_t c55 h
    refine a_tableIn (off := 79) 110 dX7_contract_31 (by rw [c55]; decide) (by rw [c55]; decide) (by rw [c55]; rfl) (by decide) ?_
    refine a_aload_n dX7_contract_110 rfl rfl ?_
    refine a_iload_n dX7_contract_111 rfl rfl ?_
    refine a_iload dX7_contract_112 rfl ?_
    refine a_iload dX7_contract_114 rfl ?_
    refine a_iload dX7_contract_116 rfl ?_
    obtain ⟨⟨ga56, gs57⟩, h⟩ := gd_t h
    obtain ⟨_, M58, e59, h⟩ := bnd2_t h
    obtain ⟨n60, en61, e59⟩ := cal_t e59
    refine e_callV (As := [.int x1, .int v7, .int (x1 + 2), .int v7]) (st := []) (a := a0) (ci := 7) false dX7_contract_118 mw_X7_putFor (Or.inl ⟨rfl, ml_X7_69⟩) im_X7_putFor se_X7_putFor (by decide) ga56 gs57 rfl (Nat.le_of_ble_eq_true rfl) en61 (s_X7_putFor e59) ?_
    refine a_goto 178 dX7_contract_121 (by decide) ?_
    exact a_vret dX7_contract_178 rfl (hR _ _ h)
  replace h := ite_f c55 h
  by_cases c62 : x2 = 5
  · replace h := ite_t c62 h
    refine a_tableIn (off := 93) 124 dX7_contract_31 (by rw [c62]; decide) (by rw [c62]; decide) (by rw [c62]; rfl) (by decide) ?_
    refine a_aload_n dX7_contract_124 rfl rfl ?_
    refine a_iload_n dX7_contract_125 rfl rfl ?_
    refine a_aload_n dX7_contract_126 rfl rfl ?_
    obtain ⟨⟨ga63, gs64⟩, h⟩ := gd_t h
    obtain ⟨r65, e66, h⟩ := bnd_t h
    refine a_get (v := .ref r65) dX7_contract_127 fl_7_27 ga63 gs64 (gvR e66 rfl) ?_
    refine a_iload dX7_contract_130 rfl ?_
    obtain ⟨⟨ga67, gs68⟩, h⟩ := gd_t h
    obtain ⟨v69, M70, e71, h⟩ := bnd2_t h
    obtain ⟨n72, en73, e71⟩ := cal_t e71
    refine e_callV (As := [.int v7]) (st := [.int x1, .ref a0]) (a := r65) (ci := 3) false dX7_contract_132 mw_X3_endOf (Or.inl ⟨rfl, ml_X7_58⟩) im_X3_endOf se_X3_endOf (by decide) ga67 gs68 rfl (Nat.le_of_ble_eq_true rfl) en73 (s_X3_endOf e71) ?_
    refine a_iload dX7_contract_135 rfl ?_
    refine a_iload dX7_contract_137 rfl ?_
    obtain ⟨⟨ga74, gs75⟩, h⟩ := gd_t h
    obtain ⟨_, M76, e77, h⟩ := bnd2_t h
    obtain ⟨n78, en79, e77⟩ := cal_t e77
    refine e_callV (As := [.int x1, .int v69, .int (x1 + 2), .int v7]) (st := []) (a := a0) (ci := 7) false dX7_contract_139 mw_X7_putFor (Or.inl ⟨rfl, ml_X7_69⟩) im_X7_putFor se_X7_putFor (by decide) ga74 gs75 rfl (Nat.le_of_ble_eq_true rfl) en79 (s_X7_putFor e77) ?_
    refine a_goto 178 dX7_contract_142 (by decide) ?_
    exact a_vret dX7_contract_178 rfl (hR _ _ h)
  replace h := ite_f c62 h
  by_cases c80 : x2 = 6
  · replace h := ite_t c80 h
    refine a_tableIn (off := 114) 145 dX7_contract_31 (by rw [c80]; decide) (by rw [c80]; decide) (by rw [c80]; rfl) (by decide) ?_
    refine a_aload_n dX7_contract_145 rfl rfl ?_
    refine a_iload_n dX7_contract_146 rfl rfl ?_
    obtain ⟨⟨ga81, gs82⟩, h⟩ := gd_t h
    obtain ⟨_, M83, e84, h⟩ := bnd2_t h
    obtain ⟨n85, en86, e84⟩ := cal_t e84
    refine e_callV (As := [.int x1]) (st := []) (a := a0) (ci := 7) false dX7_contract_147 mw_X7_moveOut (Or.inl ⟨rfl, ml_X7_73⟩) im_X7_moveOut se_X7_moveOut (by decide) ga81 gs82 rfl (Nat.le_of_ble_eq_true rfl) en86 (s_X7_moveOut e84) ?_
    refine a_goto 178 dX7_contract_150 (by decide) ?_
    exact a_vret dX7_contract_178 rfl (hR _ _ h)
  replace h := ite_f c80 h
  refine a_tableOut 153 dX7_contract_31 (by have q0 := ne_toInt (z := 1) c23 rfl; have q1 := ne_toInt (z := 2) c41 rfl; have q2 := ne_toInt (z := 3) c48 rfl; have q3 := ne_toInt (z := 4) c55 rfl; have q4 := ne_toInt (z := 5) c62 rfl; have q5 := ne_toInt (z := 6) c80 rfl; omega) (by decide) ?_
  refine a_aload_n dX7_contract_153 rfl rfl ?_
  obtain ⟨⟨ga87, gs88⟩, h⟩ := gd_t h
  obtain ⟨r89, e90, h⟩ := bnd_t h
  refine a_get (v := .ref r89) dX7_contract_154 fl_7_18 ga87 gs88 (gvR e90 rfl) ?_
  refine a_bipush (v := 10) dX7_contract_157 (by decide) ?_
  refine a_aload_n dX7_contract_159 rfl rfl ?_
  obtain ⟨r91, e92, h⟩ := bnd_t h
  refine a_get (v := .ref r91) dX7_contract_160 fl_7_27 ga87 gs88 (gvR e92 rfl) ?_
  refine a_iload_n dX7_contract_163 rfl rfl ?_
  obtain ⟨⟨ga93, gs94⟩, h⟩ := gd_t h
  obtain ⟨v95, M96, e97, h⟩ := bnd2_t h
  obtain ⟨n98, en99, e97⟩ := cal_t e97
  refine e_callV (As := [.int x1]) (st := [.int 10, .ref r89]) (a := r91) (ci := 3) false dX7_contract_164 mw_X3_typeOf (Or.inl ⟨rfl, ml_X7_77⟩) im_X3_typeOf se_X3_typeOf (by decide) ga93 gs94 rfl (Nat.le_of_ble_eq_true rfl) en99 (s_X3_typeOf e97) ?_
  obtain ⟨⟨ga100, gs101⟩, h⟩ := gd_t h
  obtain ⟨_, M102, e103, h⟩ := bnd2_t h
  obtain ⟨n104, en105, e103⟩ := cal_t e103
  refine e_callV (As := [.int 10, .int v95]) (st := []) (a := r89) (ci := 9) false dX7_contract_167 mw_X9_add (Or.inl ⟨rfl, ml_X7_80⟩) im_X9_add se_X9_add (by decide) ga100 gs101 rfl (Nat.le_of_ble_eq_true rfl) en105 (s_X9_add e103) ?_
  refine a_aload_n dX7_contract_170 rfl rfl ?_
  refine a_iload dX7_contract_171 rfl ?_
  refine a_iload dX7_contract_173 rfl ?_
  obtain ⟨⟨ga106, gs107⟩, h⟩ := gd_t h
  obtain ⟨_, M108, e109, h⟩ := bnd2_t h
  obtain ⟨n110, en111, e109⟩ := cal_t e109
  refine e_callV (As := [.int (x1 + 2), .int v7]) (st := []) (a := a0) (ci := 7) false dX7_contract_175 mw_X7_copyPlain (Or.inl ⟨rfl, ml_X7_51⟩) im_X7_copyPlain se_X7_copyPlain (by decide) ga106 gs107 rfl (Nat.le_of_ble_eq_true rfl) en111 (s_X7_copyPlain e109) ?_
  exact a_vret dX7_contract_178 rfl (hR _ _ h)
noncomputable def b_X7_contract (n : Nat) (a0 : Nat) (x1 : Int32) (x2 : Int32) (M : Mem) : Option (Unit × Mem) := T_X7_contract_0 (fun v M => some (v, M)) none n a0 x1 x2 M
set_option maxHeartbeats 4000000 in
set_option maxRecDepth 100000 in
theorem sb_X7_contract {X : Nat × (Nat → Int32)} {al : Bool} {n : Nat} {a0 : Nat} {x1 : Int32} {x2 : Int32} {M : Mem} {v : Unit} {M1 : Mem} (h : b_X7_contract n a0 x1 x2 M = some (v, M1)) : AE yX7_contract cX7_contract 7 none al n X [.ref a0, .int x1, .int x2] M none M1 := by
  refine AM.of false (by decide +kernel) (by intro h; cases h) (Nat.le_of_ble_eq_true rfl) ?_
  have h2 : T_X7_contract_0 (fun v2 M2 => some (v2, M2) = some (v, M1)) (none = some (v, M1)) n a0 x1 x2 M := (n_X7_contract_0 (fun o => o = some (v, M1)) (fun v M => some (v, M)) none n a0 x1 x2 M).mp h
  have h3 : ((none : Option (Unit × Mem)) = some (v, M1)) = False := eq_false (by intro q; cases q)
  rw [h3] at h2
  exact w_X7_contract_0 (fun v2 M2 h => by cases h; exact ⟨rfl, rfl⟩) h2

noncomputable abbrev f_X7_contract := b_X7_contract
theorem s_X7_contract {X : Nat × (Nat → Int32)} {al : Bool} {n : Nat} {a0 : Nat} {x1 : Int32} {x2 : Int32} {M : Mem} {v : Unit} {M1 : Mem} (h : f_X7_contract n a0 x1 x2 M = some (v, M1)) : AE yX7_contract cX7_contract 7 none al n X [.ref a0, .int x1, .int x2] M none M1 := sb_X7_contract h
def ix_X7_reduce (c : Nat) : List Nat := if c = 0 then [0, 1, 2] else if c = 42 then [0, 1, 2, 3, 4] else []
def PW_X7_reduce (X : Nat × (Nat → Int32)) (al : Bool) (n : Nat) (Q : Option Value → Mem → Prop) (c : Nat) (l : List Value) (M : Mem) : Prop := AW X (RX7, cX7_reduce, 5, (some .int), false, al, n) 0 0 c (List.zip (ix_X7_reduce c) l) (l.drop (ix_X7_reduce c).length) M Q
set_option maxHeartbeats 4000000 in
set_option maxRecDepth 100000 in
noncomputable def T_X7_reduce_0.{u} {α : Sort u} (J : Nat → List Value → Mem → α) (R : Int32 → Mem → α) (N : α) (n : Nat) (a0 : Nat) (a1 : Nat) (a2 : Nat) (M : Mem) : α := gd (fO M a1 9) N (bnd2 (cal n (fun n => f_X9_firstRedex n a1 M)) N (fun v3 M4 => if v3 = (-1) then R 0 M4 else gd (fO M4 a1 9) N (bnd2 (cal n (fun n => f_X9_redexAt n a1 v3 M4)) N (fun v11 M12 => gd (fO M12 a0 7) N (bnd (M12.2.2.2.2 a0 0) N (fun r18 => gd (fO M12 r18 3) N (bnd2 (cal n (fun n => f_X3_arrange n r18 a1 M12)) N (fun _ M22 => if v11 = 7 then gd (fO M22 a0 7) N (bnd (M22.2.2.2.2 a0 0) N (fun r29 => gd (fO M22 r29 3) N (bnd2 (cal n (fun n => f_X3_ask n r29 M22)) N (fun v33 M34 => J 42 [.ref a0, .ref a1, .ref a2, .int v3, .int v11] M34)))) else J 42 [.ref a0, .ref a1, .ref a2, .int v3, .int v11] M22))))))))
set_option maxHeartbeats 4000000 in
set_option maxRecDepth 100000 in
theorem n_X7_reduce_0.{u, v} {α : Sort u} {β : Sort v} (h : α → β) (J : Nat → List Value → Mem → α) (R : Int32 → Mem → α) (N : α) (n : Nat) (a0 : Nat) (a1 : Nat) (a2 : Nat) (M : Mem) : h (T_X7_reduce_0 J R N n a0 a1 a2 M) = T_X7_reduce_0 (fun c l M => h (J c l M)) (fun v M => h (R v M)) (h N) n a0 a1 a2 M := by
  simp only [T_X7_reduce_0, nat_ite h, nat_gd h, nat_bnd h, nat_bnd2 h]
set_option maxHeartbeats 4000000 in
set_option maxRecDepth 100000 in
theorem w_X7_reduce_0 {X : Nat × (Nat → Int32)} {al : Bool} {n : Nat} {Q : Option Value → Mem → Prop} {J : Nat → List Value → Mem → Prop} (hJ : ∀ c l M, J c l M → PW_X7_reduce X al n Q c l M) {R : Int32 → Mem → Prop} (hR : ∀ v M, R v M → Q (some (.int v)) M) {a0 : Nat} {a1 : Nat} {a2 : Nat} {M : Mem} (h : T_X7_reduce_0 J R False n a0 a1 a2 M) : AW X (RX7, cX7_reduce, 5, (some .int), false, al, n) 0 0 0 [(0, .ref a0), (1, .ref a1), (2, .ref a2)] [] M Q := by
  unfold T_X7_reduce_0 at h
  refine a_aload_n dX7_reduce_0 rfl rfl ?_
  obtain ⟨⟨ga1, gs2⟩, h⟩ := gd_t h
  obtain ⟨v3, M4, e5, h⟩ := bnd2_t h
  obtain ⟨n6, en7, e5⟩ := cal_t e5
  refine e_callV (As := []) (st := []) (a := a1) (ci := 9) false dX7_reduce_1 mw_X9_firstRedex (Or.inl ⟨rfl, ml_X7_31⟩) im_X9_firstRedex se_X9_firstRedex (by decide) ga1 gs2 rfl (Nat.le_of_ble_eq_true rfl) en7 (s_X9_firstRedex e5) ?_
  refine a_istore_n dX7_reduce_4 rfl (Nat.le_of_ble_eq_true rfl) (lv2 := [(3, .int v3), (0, .ref a0), (1, .ref a1), (2, .ref a2)]) rfl ?_
  refine a_iload_n dX7_reduce_5 rfl rfl ?_
  refine a_iconst (v := -1) dX7_reduce_6 (by decide) ?_
  refine a_icmp_ne 12 dX7_reduce_7 (by decide) (fun c8 => ?_) (fun c8 => ?_)
  · replace h := ite_f c8 h
    refine a_aload_n dX7_reduce_12 rfl rfl ?_
    refine a_iload_n dX7_reduce_13 rfl rfl ?_
    obtain ⟨⟨ga9, gs10⟩, h⟩ := gd_t h
    obtain ⟨v11, M12, e13, h⟩ := bnd2_t h
    obtain ⟨n14, en15, e13⟩ := cal_t e13
    refine e_callV (As := [.int v3]) (st := []) (a := a1) (ci := 9) false dX7_reduce_14 mw_X9_redexAt (Or.inl ⟨rfl, ml_X7_35⟩) im_X9_redexAt se_X9_redexAt (by decide) ga9 gs10 rfl (Nat.le_of_ble_eq_true rfl) en15 (s_X9_redexAt e13) ?_
    refine a_istore dX7_reduce_17 (Nat.le_of_ble_eq_true rfl) (lv2 := [(4, .int v11), (3, .int v3), (0, .ref a0), (1, .ref a1), (2, .ref a2)]) rfl ?_
    refine a_aload_n dX7_reduce_19 rfl rfl ?_
    obtain ⟨⟨ga16, gs17⟩, h⟩ := gd_t h
    obtain ⟨r18, e19, h⟩ := bnd_t h
    refine a_get (v := .ref r18) dX7_reduce_20 fl_7_27 ga16 gs17 (gvR e19 rfl) ?_
    refine a_aload_n dX7_reduce_23 rfl rfl ?_
    obtain ⟨⟨ga20, gs21⟩, h⟩ := gd_t h
    obtain ⟨_, M22, e23, h⟩ := bnd2_t h
    obtain ⟨n24, en25, e23⟩ := cal_t e23
    refine e_callV (As := [.ref a1]) (st := []) (a := r18) (ci := 3) false dX7_reduce_24 mw_X3_arrange (Or.inl ⟨rfl, ml_X7_39⟩) im_X3_arrange se_X3_arrange (by decide) ga20 gs21 rfl (Nat.le_of_ble_eq_true rfl) en25 (s_X3_arrange e23) ?_
    refine a_iload dX7_reduce_27 rfl ?_
    refine a_bipush (v := 7) dX7_reduce_29 (by decide) ?_
    refine a_icmp_ne 42 dX7_reduce_31 (by decide) (fun c26 => ?_) (fun c26 => ?_)
    · replace h := ite_f c26 h
      exact a_lv (lv2 := [(0, .ref a0), (1, .ref a1), (2, .ref a2), (3, .int v3), (4, .int v11)]) (fa_cons rfl (fa_cons rfl (fa_cons rfl (fa_cons rfl (fa_cons rfl fa_nil))))) (hJ _ _ _ h)
    · replace h := ite_t c26 h
      refine a_aload_n dX7_reduce_34 rfl rfl ?_
      obtain ⟨⟨ga27, gs28⟩, h⟩ := gd_t h
      obtain ⟨r29, e30, h⟩ := bnd_t h
      refine a_get (v := .ref r29) dX7_reduce_35 fl_7_27 ga27 gs28 (gvR e30 rfl) ?_
      obtain ⟨⟨ga31, gs32⟩, h⟩ := gd_t h
      obtain ⟨v33, M34, e35, h⟩ := bnd2_t h
      obtain ⟨n36, en37, e35⟩ := cal_t e35
      refine e_callV (As := []) (st := []) (a := r29) (ci := 3) false dX7_reduce_38 mw_X3_ask (Or.inl ⟨rfl, ml_X7_45⟩) im_X3_ask se_X3_ask (by decide) ga31 gs32 rfl (Nat.le_of_ble_eq_true rfl) en37 (s_X3_ask e35) ?_
      refine a_pop dX7_reduce_41 rfl ?_
      exact a_lv (lv2 := [(0, .ref a0), (1, .ref a1), (2, .ref a2), (3, .int v3), (4, .int v11)]) (fa_cons rfl (fa_cons rfl (fa_cons rfl (fa_cons rfl (fa_cons rfl fa_nil))))) (hJ _ _ _ h)
  · replace h := ite_t c8 h
    refine a_iconst (v := 0) dX7_reduce_10 (by decide) ?_
    exact a_iret dX7_reduce_11 rfl (hR _ _ h)
set_option maxHeartbeats 4000000 in
set_option maxRecDepth 100000 in
noncomputable def T_X7_reduce_42.{u} {α : Sort u} (J : Nat → List Value → Mem → α) (R : Int32 → Mem → α) (N : α) (n : Nat) (a0 : Nat) (a1 : Nat) (a2 : Nat) (x3 : Int32) (x4 : Int32) (M : Mem) : α := gd (fO M a0 7) N (gd (fO M a2 9) N (bnd2 (cal n (fun n => f_X9_clear n a2 (wR (wR M a0 1 (some a1)) a0 2 (some a2)))) N (fun _ M5 => gd (fO M5 a0 7) N (bnd2 (cal n (fun n => f_X7_copyPlain n a0 0 x3 M5)) N (fun _ M11 => gd (fO M11 a0 7) N (bnd2 (cal n (fun n => f_X7_contract n a0 x3 x4 M11)) N (fun _ M17 => gd (fO M17 a0 7) N (bnd (M17.2.2.2.2 a0 0) N (fun r23 => gd (fO M17 r23 3) N (bnd2 (cal n (fun n => f_X3_endOf n r23 x3 M17)) N (fun v27 M28 => gd (fO M28 a1 9) N (gd (fO M28 a0 7) N (bnd2 (cal n (fun n => f_X7_copyPlain n a0 v27 (M28.2.2.1 a1 2) M28)) N (fun _ M36 => gd (fO M36 a2 9) N (if (M36.2.2.1 a2 3) = 0 then R x4 M36 else R (-4) M36)))))))))))))))
set_option maxHeartbeats 4000000 in
set_option maxRecDepth 100000 in
theorem n_X7_reduce_42.{u, v} {α : Sort u} {β : Sort v} (h : α → β) (J : Nat → List Value → Mem → α) (R : Int32 → Mem → α) (N : α) (n : Nat) (a0 : Nat) (a1 : Nat) (a2 : Nat) (x3 : Int32) (x4 : Int32) (M : Mem) : h (T_X7_reduce_42 J R N n a0 a1 a2 x3 x4 M) = T_X7_reduce_42 (fun c l M => h (J c l M)) (fun v M => h (R v M)) (h N) n a0 a1 a2 x3 x4 M := by
  simp only [T_X7_reduce_42, nat_ite h, nat_gd h, nat_bnd h, nat_bnd2 h]
set_option maxHeartbeats 4000000 in
set_option maxRecDepth 100000 in
theorem w_X7_reduce_42 {X : Nat × (Nat → Int32)} {al : Bool} {n : Nat} {Q : Option Value → Mem → Prop} {J : Nat → List Value → Mem → Prop} (hJ : ∀ c l M, J c l M → PW_X7_reduce X al n Q c l M) {R : Int32 → Mem → Prop} (hR : ∀ v M, R v M → Q (some (.int v)) M) {a0 : Nat} {a1 : Nat} {a2 : Nat} {x3 : Int32} {x4 : Int32} {M : Mem} (h : T_X7_reduce_42 J R False n a0 a1 a2 x3 x4 M) : AW X (RX7, cX7_reduce, 5, (some .int), false, al, n) 0 0 42 [(0, .ref a0), (1, .ref a1), (2, .ref a2), (3, .int x3), (4, .int x4)] [] M Q := by
  unfold T_X7_reduce_42 at h
  refine a_aload_n dX7_reduce_42 rfl rfl ?_
  refine a_aload_n dX7_reduce_43 rfl rfl ?_
  obtain ⟨⟨ga1, gs2⟩, h⟩ := gd_t h
  refine a_putR dX7_reduce_44 (Or.inl ⟨fl_7_12, Or.inl rfl⟩) rfl ga1 gs2 ?_
  refine a_aload_n dX7_reduce_47 rfl rfl ?_
  refine a_aload_n dX7_reduce_48 rfl rfl ?_
  refine a_putR dX7_reduce_49 (Or.inl ⟨fl_7_18, Or.inl rfl⟩) rfl ga1 gs2 ?_
  refine a_aload_n dX7_reduce_52 rfl rfl ?_
  obtain ⟨⟨ga3, gs4⟩, h⟩ := gd_t h
  obtain ⟨_, M5, e6, h⟩ := bnd2_t h
  obtain ⟨n7, en8, e6⟩ := cal_t e6
  refine e_callV (As := []) (st := []) (a := a2) (ci := 9) false dX7_reduce_53 mw_X9_clear (Or.inl ⟨rfl, ml_X7_48⟩) im_X9_clear se_X9_clear (by decide) ga3 gs4 rfl (Nat.le_of_ble_eq_true rfl) en8 (s_X9_clear e6) ?_
  refine a_aload_n dX7_reduce_56 rfl rfl ?_
  refine a_iconst (v := 0) dX7_reduce_57 (by decide) ?_
  refine a_iload_n dX7_reduce_58 rfl rfl ?_
  obtain ⟨⟨ga9, gs10⟩, h⟩ := gd_t h
  obtain ⟨_, M11, e12, h⟩ := bnd2_t h
  obtain ⟨n13, en14, e12⟩ := cal_t e12
  refine e_callV (As := [.int 0, .int x3]) (st := []) (a := a0) (ci := 7) false dX7_reduce_59 mw_X7_copyPlain (Or.inl ⟨rfl, ml_X7_51⟩) im_X7_copyPlain se_X7_copyPlain (by decide) ga9 gs10 rfl (Nat.le_of_ble_eq_true rfl) en14 (s_X7_copyPlain e12) ?_
  refine a_aload_n dX7_reduce_62 rfl rfl ?_
  refine a_iload_n dX7_reduce_63 rfl rfl ?_
  refine a_iload dX7_reduce_64 rfl ?_
  obtain ⟨⟨ga15, gs16⟩, h⟩ := gd_t h
  obtain ⟨_, M17, e18, h⟩ := bnd2_t h
  obtain ⟨n19, en20, e18⟩ := cal_t e18
  refine e_callV (As := [.int x3, .int x4]) (st := []) (a := a0) (ci := 7) false dX7_reduce_66 mw_X7_contract (Or.inl ⟨rfl, ml_X7_55⟩) im_X7_contract se_X7_contract (by decide) ga15 gs16 rfl (Nat.le_of_ble_eq_true rfl) en20 (s_X7_contract e18) ?_
  refine a_aload_n dX7_reduce_69 rfl rfl ?_
  refine a_aload_n dX7_reduce_70 rfl rfl ?_
  obtain ⟨⟨ga21, gs22⟩, h⟩ := gd_t h
  obtain ⟨r23, e24, h⟩ := bnd_t h
  refine a_get (v := .ref r23) dX7_reduce_71 fl_7_27 ga21 gs22 (gvR e24 rfl) ?_
  refine a_iload_n dX7_reduce_74 rfl rfl ?_
  obtain ⟨⟨ga25, gs26⟩, h⟩ := gd_t h
  obtain ⟨v27, M28, e29, h⟩ := bnd2_t h
  obtain ⟨n30, en31, e29⟩ := cal_t e29
  refine e_callV (As := [.int x3]) (st := [.ref a0]) (a := r23) (ci := 3) false dX7_reduce_75 mw_X3_endOf (Or.inl ⟨rfl, ml_X7_58⟩) im_X3_endOf se_X3_endOf (by decide) ga25 gs26 rfl (Nat.le_of_ble_eq_true rfl) en31 (s_X3_endOf e29) ?_
  refine a_aload_n dX7_reduce_78 rfl rfl ?_
  obtain ⟨⟨ga32, gs33⟩, h⟩ := gd_t h
  refine a_getN (v := .int (M28.2.2.1 a1 2)) dX7_reduce_79 fn_7_61 ga32 gs33 rfl ?_
  obtain ⟨⟨ga34, gs35⟩, h⟩ := gd_t h
  obtain ⟨_, M36, e37, h⟩ := bnd2_t h
  obtain ⟨n38, en39, e37⟩ := cal_t e37
  refine e_callV (As := [.int v27, .int (M28.2.2.1 a1 2)]) (st := []) (a := a0) (ci := 7) false dX7_reduce_82 mw_X7_copyPlain (Or.inl ⟨rfl, ml_X7_51⟩) im_X7_copyPlain se_X7_copyPlain (by decide) ga34 gs35 rfl (Nat.le_of_ble_eq_true rfl) en39 (s_X7_copyPlain e37) ?_
  refine a_aload_n dX7_reduce_85 rfl rfl ?_
  obtain ⟨⟨ga40, gs41⟩, h⟩ := gd_t h
  refine a_getN (v := .int (M36.2.2.1 a2 3)) dX7_reduce_86 fn_7_65 ga40 gs41 rfl ?_
  refine a_if_eq 97 dX7_reduce_89 (by decide) (fun c42 => ?_) (fun c42 => ?_)
  · replace h := ite_t c42 h
    refine a_iload dX7_reduce_97 rfl ?_
    exact a_iret dX7_reduce_99 rfl (hR _ _ h)
  · replace h := ite_f c42 h
    refine a_bipush (v := -4) dX7_reduce_92 (by decide) ?_
    refine a_goto 99 dX7_reduce_94 (by decide) ?_
    exact a_iret dX7_reduce_99 rfl (hR _ _ h)
set_option maxHeartbeats 4000000 in
set_option maxRecDepth 100000 in
noncomputable def st_X7_reduce (n : Nat) (s : Sg) : Option (Sg ⊕ (Int32 × Mem)) := if s.1 = 0 then vR s.2.1 none (fun a0 t => vR t none (fun a1 t => vR t none (fun a2 t => vE t none (T_X7_reduce_0 (fun c l M => some (.inl (c, l, M))) (fun v M => some (.inr (v, M))) none n a0 a1 a2 s.2.2)))) else if s.1 = 42 then vR s.2.1 none (fun a0 t => vR t none (fun a1 t => vR t none (fun a2 t => vI t none (fun x3 t => vI t none (fun x4 t => vE t none (T_X7_reduce_42 (fun c l M => some (.inl (c, l, M))) (fun v M => some (.inr (v, M))) none n a0 a1 a2 x3 x4 s.2.2)))))) else none
noncomputable abbrev g_X7_reduce_0 (n : Nat) (a0 : Nat) (a1 : Nat) (a2 : Nat) (M : Mem) : Option (Int32 × Mem) := lp (st_X7_reduce n) (0, [.ref a0, .ref a1, .ref a2], M)
set_option maxHeartbeats 4000000 in
set_option maxRecDepth 100000 in
theorem ge_X7_reduce_0 (n : Nat) (a0 : Nat) (a1 : Nat) (a2 : Nat) (M : Mem) : g_X7_reduce_0 n a0 a1 a2 M = T_X7_reduce_0 (fun c l M => lp (st_X7_reduce n) (c, l, M)) (fun v M => some (v, M)) none n a0 a1 a2 M := (lp_eq _ _).trans (n_X7_reduce_0 (lpK (st_X7_reduce n)) (fun c l M => some (.inl (c, l, M))) (fun v M => some (.inr (v, M))) none n a0 a1 a2 M)
noncomputable abbrev g_X7_reduce_42 (n : Nat) (a0 : Nat) (a1 : Nat) (a2 : Nat) (x3 : Int32) (x4 : Int32) (M : Mem) : Option (Int32 × Mem) := lp (st_X7_reduce n) (42, [.ref a0, .ref a1, .ref a2, .int x3, .int x4], M)
set_option maxHeartbeats 4000000 in
set_option maxRecDepth 100000 in
theorem ge_X7_reduce_42 (n : Nat) (a0 : Nat) (a1 : Nat) (a2 : Nat) (x3 : Int32) (x4 : Int32) (M : Mem) : g_X7_reduce_42 n a0 a1 a2 x3 x4 M = T_X7_reduce_42 (fun c l M => lp (st_X7_reduce n) (c, l, M)) (fun v M => some (v, M)) none n a0 a1 a2 x3 x4 M := (lp_eq _ _).trans (n_X7_reduce_42 (lpK (st_X7_reduce n)) (fun c l M => some (.inl (c, l, M))) (fun v M => some (.inr (v, M))) none n a0 a1 a2 x3 x4 M)
noncomputable def b_X7_reduce (n : Nat) (a0 : Nat) (a1 : Nat) (a2 : Nat) (M : Mem) : Option (Int32 × Mem) := g_X7_reduce_0 n a0 a1 a2 M
set_option maxHeartbeats 4000000 in
set_option maxRecDepth 100000 in
theorem sb_X7_reduce {X : Nat × (Nat → Int32)} {al : Bool} {n : Nat} {a0 : Nat} {a1 : Nat} {a2 : Nat} {M : Mem} {v : Int32} {M1 : Mem} (h : b_X7_reduce n a0 a1 a2 M = some (v, M1)) : AE yX7_reduce cX7_reduce 5 (some .int) al n X [.ref a0, .ref a1, .ref a2] M (some (.int v)) M1 := by
  refine AM.of false (by decide +kernel) (by intro h; cases h) (Nat.le_of_ble_eq_true rfl) ?_
  refine lp_snd (P := fun s r => PW_X7_reduce X al n (fun v M2 => v = (some (.int r.1)) ∧ M2 = r.2) s.1 s.2.1 s.2.2) ?_ h
  clear h
  rintro ⟨c, l, M⟩ r h
  unfold st_X7_reduce at h
  rcases ite_p h with ⟨e, h⟩ | ⟨e, h⟩
  · replace e : c = 0 := e
    subst e
    obtain ⟨a0, tt0, e, h⟩ := vR_p id h
    replace e : l = _ := e
    subst e
    obtain ⟨a1, tt1, e, h⟩ := vR_p id h
    replace e : tt0 = _ := e
    subst e
    obtain ⟨a2, tt2, e, h⟩ := vR_p id h
    replace e : tt1 = _ := e
    subst e
    obtain ⟨e, h⟩ := vE_p id h
    replace e : tt2 = [] := e
    subst e
    exact w_X7_reduce_0 (J := fun c l M => PW_X7_reduce X al n (fun v M2 => v = (some (.int r.1)) ∧ M2 = r.2) c l M) (R := fun v M => (v, M) = r) (fun _ _ _ h => h) (fun v M h => by cases h; exact ⟨rfl, rfl⟩) ((n_X7_reduce_0 (lpP (fun (s : Sg) (r : Int32 × Mem) => PW_X7_reduce X al n (fun v M2 => v = (some (.int r.1)) ∧ M2 = r.2) s.1 s.2.1 s.2.2) r) (fun c l M => some (.inl (c, l, M))) (fun v M => some (.inr (v, M))) none n a0 a1 a2 M).mp h)
  rcases ite_p h with ⟨e, h⟩ | ⟨e, h⟩
  · replace e : c = 42 := e
    subst e
    obtain ⟨a0, tt0, e, h⟩ := vR_p id h
    replace e : l = _ := e
    subst e
    obtain ⟨a1, tt1, e, h⟩ := vR_p id h
    replace e : tt0 = _ := e
    subst e
    obtain ⟨a2, tt2, e, h⟩ := vR_p id h
    replace e : tt1 = _ := e
    subst e
    obtain ⟨x3, tt3, e, h⟩ := vI_p id h
    replace e : tt2 = _ := e
    subst e
    obtain ⟨x4, tt4, e, h⟩ := vI_p id h
    replace e : tt3 = _ := e
    subst e
    obtain ⟨e, h⟩ := vE_p id h
    replace e : tt4 = [] := e
    subst e
    exact w_X7_reduce_42 (J := fun c l M => PW_X7_reduce X al n (fun v M2 => v = (some (.int r.1)) ∧ M2 = r.2) c l M) (R := fun v M => (v, M) = r) (fun _ _ _ h => h) (fun v M h => by cases h; exact ⟨rfl, rfl⟩) ((n_X7_reduce_42 (lpP (fun (s : Sg) (r : Int32 × Mem) => PW_X7_reduce X al n (fun v M2 => v = (some (.int r.1)) ∧ M2 = r.2) s.1 s.2.1 s.2.2) r) (fun c l M => some (.inl (c, l, M))) (fun v M => some (.inr (v, M))) none n a0 a1 a2 x3 x4 M).mp h)
  · exact h.elim

noncomputable abbrev f_X7_reduce := b_X7_reduce
theorem s_X7_reduce {X : Nat × (Nat → Int32)} {al : Bool} {n : Nat} {a0 : Nat} {a1 : Nat} {a2 : Nat} {M : Mem} {v : Int32} {M1 : Mem} (h : f_X7_reduce n a0 a1 a2 M = some (v, M1)) : AE yX7_reduce cX7_reduce 5 (some .int) al n X [.ref a0, .ref a1, .ref a2] M (some (.int v)) M1 := sb_X7_reduce h
set_option maxHeartbeats 4000000 in
set_option maxRecDepth 100000 in
noncomputable def T_X10_step_0.{u} {α : Sort u} (R : Int32 → Mem → α) (N : α) (n : Nat) (a0 : Nat) (x1 : Int32) (M : Mem) : α := bnd2 (cal n (fun n => f_X10_noSlot n x1 M)) N (fun v1 M2 => if v1 = 0 then gd (fO M2 a0 10) N (bnd (M2.2.2.2.2 a0 5) N (fun r9 => gd (fA M2 r9 4 x1) N (bnd (M2.2.2.2.2 r9 (x1.toNatClampNeg)) N (fun r15 => gd (fO M2 r15 9) N (if (M2.2.2.1 r15 2) = 0 then R (-5) M2 else bnd (M2.2.2.2.2 a0 8) N (fun r20 => bnd (M2.2.2.2.2 r9 (x1.toNatClampNeg)) N (fun r22 => bnd (M2.2.2.2.2 a0 6) N (fun r24 => gd (fO M2 r20 7) N (bnd2 (cal n (fun n => f_X7_reduce n r20 r22 r24 M2)) N (fun v28 M29 => if v28 ≤ 0 then R v28 M29 else gd (fO M29 a0 10) N (bnd (M29.2.2.2.2 a0 5) N (fun r36 => gd (fA M29 r36 4 x1) N (bnd (M29.2.2.2.2 r36 (x1.toNatClampNeg)) N (fun r42 => bnd (M29.2.2.2.2 a0 6) N (fun r44 => gd (fO M29 r42 9) N (bnd2 (cal n (fun n => f_X9_takeOver n r42 r44 M29)) N (fun _ M48 => R v28 M48))))))))))))))))) else R (-2) M2)
set_option maxHeartbeats 4000000 in
set_option maxRecDepth 100000 in
theorem n_X10_step_0.{u, v} {α : Sort u} {β : Sort v} (h : α → β) (R : Int32 → Mem → α) (N : α) (n : Nat) (a0 : Nat) (x1 : Int32) (M : Mem) : h (T_X10_step_0 R N n a0 x1 M) = T_X10_step_0 (fun v M => h (R v M)) (h N) n a0 x1 M := by
  simp only [T_X10_step_0, nat_ite h, nat_gd h, nat_bnd h, nat_bnd2 h]
set_option maxHeartbeats 4000000 in
set_option maxRecDepth 100000 in
theorem w_X10_step_0 {X : Nat × (Nat → Int32)} {al : Bool} {n : Nat} {Q : Option Value → Mem → Prop} {R : Int32 → Mem → Prop} (hR : ∀ v M, R v M → Q (some (.int v)) M) {a0 : Nat} {x1 : Int32} {M : Mem} (h : T_X10_step_0 R False n a0 x1 M) : AW X (RX10, cX10_step, 3, (some .int), false, al, n) 0 0 0 [(0, .ref a0), (1, .int x1)] [] M Q := by
  unfold T_X10_step_0 at h
  refine a_iload_n dX10_step_0 rfl rfl ?_
  obtain ⟨v1, M2, e3, h⟩ := bnd2_t h
  obtain ⟨n4, en5, e3⟩ := cal_t e3
  refine e_callS (As := [.int x1]) (st := []) false dX10_step_1 mw_X10_noSlot (Or.inl ⟨rfl, ml_X10_151⟩) sm_X10_noSlot rfl (Nat.le_of_ble_eq_true rfl) en5 (s_X10_noSlot e3) ?_
  refine a_if_eq 10 dX10_step_4 (by decide) (fun c6 => ?_) (fun c6 => ?_)
  · replace h := ite_t c6 h
    refine a_aload_n dX10_step_10 rfl rfl ?_
    obtain ⟨⟨ga7, gs8⟩, h⟩ := gd_t h
    obtain ⟨r9, e10, h⟩ := bnd_t h
    refine a_get (v := .ref r9) dX10_step_11 fl_10_38 ga7 gs8 (gvR e10 rfl) ?_
    refine a_iload_n dX10_step_14 rfl rfl ?_
    obtain ⟨⟨ga11, gn12, gs13, gi14⟩, h⟩ := gd_t h
    obtain ⟨r15, e16, h⟩ := bnd_t h
    refine a_aaload dX10_step_15 ga11 gs13 gi14 e16 ?_
    obtain ⟨⟨ga17, gs18⟩, h⟩ := gd_t h
    refine a_getN (v := .int (M2.2.2.1 r15 2)) dX10_step_16 fn_10_171 ga17 gs18 rfl ?_
    refine a_if_ne 25 dX10_step_19 (by decide) (fun c19 => ?_) (fun c19 => ?_)
    · replace h := ite_f c19 h
      refine a_aload_n dX10_step_25 rfl rfl ?_
      obtain ⟨r20, e21, h⟩ := bnd_t h
      refine a_get (v := .ref r20) dX10_step_26 fl_10_61 ga7 gs8 (gvR e21 rfl) ?_
      refine a_aload_n dX10_step_29 rfl rfl ?_
      refine a_get (v := .ref r9) dX10_step_30 fl_10_38 ga7 gs8 (gvR e10 rfl) ?_
      refine a_iload_n dX10_step_33 rfl rfl ?_
      obtain ⟨r22, e23, h⟩ := bnd_t h
      refine a_aaload dX10_step_34 ga11 gs13 gi14 e23 ?_
      refine a_aload_n dX10_step_35 rfl rfl ?_
      obtain ⟨r24, e25, h⟩ := bnd_t h
      refine a_get (v := .ref r24) dX10_step_36 fl_10_43 ga7 gs8 (gvR e25 rfl) ?_
      obtain ⟨⟨ga26, gs27⟩, h⟩ := gd_t h
      obtain ⟨v28, M29, e30, h⟩ := bnd2_t h
      obtain ⟨n31, en32, e30⟩ := cal_t e30
      refine e_callV (As := [.ref r22, .ref r24]) (st := []) (a := r20) (ci := 7) false dX10_step_39 mw_X7_reduce (Or.inl ⟨rfl, ml_X10_257⟩) im_X7_reduce se_X7_reduce (by decide) ga26 gs27 rfl (Nat.le_of_ble_eq_true rfl) en32 (s_X7_reduce e30) ?_
      refine a_istore_n dX10_step_42 rfl (Nat.le_of_ble_eq_true rfl) (lv2 := [(2, .int v28), (0, .ref a0), (1, .int x1)]) rfl ?_
      refine a_iload_n dX10_step_43 rfl rfl ?_
      refine a_if_le 60 dX10_step_44 (by decide) (fun c33 => ?_) (fun c33 => ?_)
      · replace h := ite_t c33 h
        refine a_iload_n dX10_step_60 rfl rfl ?_
        exact a_iret dX10_step_61 rfl (hR _ _ h)
      · replace h := ite_f c33 h
        refine a_aload_n dX10_step_47 rfl rfl ?_
        obtain ⟨⟨ga34, gs35⟩, h⟩ := gd_t h
        obtain ⟨r36, e37, h⟩ := bnd_t h
        refine a_get (v := .ref r36) dX10_step_48 fl_10_38 ga34 gs35 (gvR e37 rfl) ?_
        refine a_iload_n dX10_step_51 rfl rfl ?_
        obtain ⟨⟨ga38, gn39, gs40, gi41⟩, h⟩ := gd_t h
        obtain ⟨r42, e43, h⟩ := bnd_t h
        refine a_aaload dX10_step_52 ga38 gs40 gi41 e43 ?_
        refine a_aload_n dX10_step_53 rfl rfl ?_
        obtain ⟨r44, e45, h⟩ := bnd_t h
        refine a_get (v := .ref r44) dX10_step_54 fl_10_43 ga34 gs35 (gvR e45 rfl) ?_
        obtain ⟨⟨ga46, gs47⟩, h⟩ := gd_t h
        obtain ⟨_, M48, e49, h⟩ := bnd2_t h
        obtain ⟨n50, en51, e49⟩ := cal_t e49
        refine e_callV (As := [.ref r44]) (st := []) (a := r42) (ci := 9) false dX10_step_57 mw_X9_takeOver (Or.inl ⟨rfl, ml_X10_169⟩) im_X9_takeOver se_X9_takeOver (by decide) ga46 gs47 rfl (Nat.le_of_ble_eq_true rfl) en51 (s_X9_takeOver e49) ?_
        refine a_iload_n dX10_step_60 rfl rfl ?_
        exact a_iret dX10_step_61 rfl (hR _ _ h)
    · replace h := ite_t c19 h
      refine a_bipush (v := -5) dX10_step_22 (by decide) ?_
      exact a_iret dX10_step_24 rfl (hR _ _ h)
  · replace h := ite_f c6 h
    refine a_bipush (v := -2) dX10_step_7 (by decide) ?_
    exact a_iret dX10_step_9 rfl (hR _ _ h)
noncomputable def b_X10_step (n : Nat) (a0 : Nat) (x1 : Int32) (M : Mem) : Option (Int32 × Mem) := T_X10_step_0 (fun v M => some (v, M)) none n a0 x1 M
set_option maxHeartbeats 4000000 in
set_option maxRecDepth 100000 in
theorem sb_X10_step {X : Nat × (Nat → Int32)} {al : Bool} {n : Nat} {a0 : Nat} {x1 : Int32} {M : Mem} {v : Int32} {M1 : Mem} (h : b_X10_step n a0 x1 M = some (v, M1)) : AE yX10_step cX10_step 3 (some .int) al n X [.ref a0, .int x1] M (some (.int v)) M1 := by
  refine AM.of false (by decide +kernel) (by intro h; cases h) (Nat.le_of_ble_eq_true rfl) ?_
  have h2 : T_X10_step_0 (fun v2 M2 => some (v2, M2) = some (v, M1)) (none = some (v, M1)) n a0 x1 M := (n_X10_step_0 (fun o => o = some (v, M1)) (fun v M => some (v, M)) none n a0 x1 M).mp h
  have h3 : ((none : Option (Int32 × Mem)) = some (v, M1)) = False := eq_false (by intro q; cases q)
  rw [h3] at h2
  exact w_X10_step_0 (fun v2 M2 h => by cases h; exact ⟨rfl, rfl⟩) h2

noncomputable abbrev f_X10_step := b_X10_step
theorem s_X10_step {X : Nat × (Nat → Int32)} {al : Bool} {n : Nat} {a0 : Nat} {x1 : Int32} {M : Mem} {v : Int32} {M1 : Mem} (h : f_X10_step n a0 x1 M = some (v, M1)) : AE yX10_step cX10_step 3 (some .int) al n X [.ref a0, .int x1] M (some (.int v)) M1 := sb_X10_step h
def ix_X11_behind (c : Nat) : List Nat := if c = 0 then [0, 1] else if c = 4 then [0, 2, 3] else []
def PW_X11_behind (X : Nat × (Nat → Int32)) (al : Bool) (n : Nat) (Q : Option Value → Mem → Prop) (c : Nat) (l : List Value) (M : Mem) : Prop := AW X (RX11, cX11_behind, 4, (some .int), false, al, n) 0 0 c (List.zip (ix_X11_behind c) l) (l.drop (ix_X11_behind c).length) M Q
set_option maxHeartbeats 4000000 in
set_option maxRecDepth 100000 in
noncomputable def T_X11_behind_0.{u} {α : Sort u} (J : Nat → List Value → Mem → α) (R : Int32 → Mem → α) (N : α) (n : Nat) (a0 : Nat) (x1 : Int32) (M : Mem) : α := J 4 [.ref a0, .int x1, .int 1] M
set_option maxHeartbeats 4000000 in
set_option maxRecDepth 100000 in
theorem n_X11_behind_0.{u, v} {α : Sort u} {β : Sort v} (h : α → β) (J : Nat → List Value → Mem → α) (R : Int32 → Mem → α) (N : α) (n : Nat) (a0 : Nat) (x1 : Int32) (M : Mem) : h (T_X11_behind_0 J R N n a0 x1 M) = T_X11_behind_0 (fun c l M => h (J c l M)) (fun v M => h (R v M)) (h N) n a0 x1 M := by
  simp only [T_X11_behind_0, nat_ite h, nat_gd h, nat_bnd h, nat_bnd2 h]
set_option maxHeartbeats 4000000 in
set_option maxRecDepth 100000 in
theorem w_X11_behind_0 {X : Nat × (Nat → Int32)} {al : Bool} {n : Nat} {Q : Option Value → Mem → Prop} {J : Nat → List Value → Mem → Prop} (hJ : ∀ c l M, J c l M → PW_X11_behind X al n Q c l M) {R : Int32 → Mem → Prop} (hR : ∀ v M, R v M → Q (some (.int v)) M) {a0 : Nat} {x1 : Int32} {M : Mem} (h : T_X11_behind_0 J R False n a0 x1 M) : AW X (RX11, cX11_behind, 4, (some .int), false, al, n) 0 0 0 [(0, .ref a0), (1, .int x1)] [] M Q := by
  unfold T_X11_behind_0 at h
  refine a_iload_n dX11_behind_0 rfl rfl ?_
  refine a_istore_n dX11_behind_1 rfl (Nat.le_of_ble_eq_true rfl) (lv2 := [(2, .int x1), (0, .ref a0), (1, .int x1)]) rfl ?_
  refine a_iconst (v := 1) dX11_behind_2 (by decide) ?_
  refine a_istore_n dX11_behind_3 rfl (Nat.le_of_ble_eq_true rfl) (lv2 := [(3, .int 1), (2, .int x1), (0, .ref a0), (1, .int x1)]) rfl ?_
  exact a_lv (lv2 := [(0, .ref a0), (2, .int x1), (3, .int 1)]) (fa_cons rfl (fa_cons rfl (fa_cons rfl fa_nil))) (hJ _ _ _ h)
set_option maxHeartbeats 4000000 in
set_option maxRecDepth 100000 in
noncomputable def T_X11_behind_4.{u} {α : Sort u} (J : Nat → List Value → Mem → α) (R : Int32 → Mem → α) (N : α) (n : Nat) (a0 : Nat) (x2 : Int32) (x3 : Int32) (M : Mem) : α := if x3 ≤ 0 then R x2 M else gd (fO M a0 11) N (bnd (M.2.2.2.2 a0 20) N (fun r4 => gd (fA M r4 1 x2) N (bnd2 (cal n (fun n => f_X11_arity n (M.2.2.1 r4 (x2.toNatClampNeg)) M)) N (fun v10 M11 => J 4 [.ref a0, .int (x2 + 1), .int (x3 + (v10 - 1))] M11))))
set_option maxHeartbeats 4000000 in
set_option maxRecDepth 100000 in
theorem n_X11_behind_4.{u, v} {α : Sort u} {β : Sort v} (h : α → β) (J : Nat → List Value → Mem → α) (R : Int32 → Mem → α) (N : α) (n : Nat) (a0 : Nat) (x2 : Int32) (x3 : Int32) (M : Mem) : h (T_X11_behind_4 J R N n a0 x2 x3 M) = T_X11_behind_4 (fun c l M => h (J c l M)) (fun v M => h (R v M)) (h N) n a0 x2 x3 M := by
  simp only [T_X11_behind_4, nat_ite h, nat_gd h, nat_bnd h, nat_bnd2 h]
set_option maxHeartbeats 4000000 in
set_option maxRecDepth 100000 in
theorem w_X11_behind_4 {X : Nat × (Nat → Int32)} {al : Bool} {n : Nat} {Q : Option Value → Mem → Prop} {J : Nat → List Value → Mem → Prop} (hJ : ∀ c l M, J c l M → PW_X11_behind X al n Q c l M) {R : Int32 → Mem → Prop} (hR : ∀ v M, R v M → Q (some (.int v)) M) {a0 : Nat} {x2 : Int32} {x3 : Int32} {M : Mem} (h : T_X11_behind_4 J R False n a0 x2 x3 M) : AW X (RX11, cX11_behind, 4, (some .int), false, al, n) 0 0 4 [(0, .ref a0), (2, .int x2), (3, .int x3)] [] M Q := by
  unfold T_X11_behind_4 at h
  refine a_iload_n dX11_behind_4 rfl rfl ?_
  refine a_if_le 28 dX11_behind_5 (by decide) (fun c1 => ?_) (fun c1 => ?_)
  · replace h := ite_t c1 h
    refine a_iload_n dX11_behind_28 rfl rfl ?_
    exact a_iret dX11_behind_29 rfl (hR _ _ h)
  · replace h := ite_f c1 h
    refine a_iload_n dX11_behind_8 rfl rfl ?_
    refine a_aload_n dX11_behind_9 rfl rfl ?_
    obtain ⟨⟨ga2, gs3⟩, h⟩ := gd_t h
    obtain ⟨r4, e5, h⟩ := bnd_t h
    refine a_get (v := .ref r4) dX11_behind_10 fl_11_59 ga2 gs3 (gvR e5 rfl) ?_
    refine a_iload_n dX11_behind_13 rfl rfl ?_
    obtain ⟨⟨ga6, gn7, gs8, gi9⟩, h⟩ := gd_t h
    refine a_iaload dX11_behind_14 ga6 gs8 gi9 ?_
    obtain ⟨v10, M11, e12, h⟩ := bnd2_t h
    obtain ⟨n13, en14, e12⟩ := cal_t e12
    refine e_callS (As := [.int (M.2.2.1 r4 (x2.toNatClampNeg))]) (st := [.int x3]) false dX11_behind_15 mw_X11_arity (Or.inl ⟨rfl, ml_X11_297⟩) sm_X11_arity rfl (Nat.le_of_ble_eq_true rfl) en14 (s_X11_arity e12) ?_
    refine a_iconst (v := 1) dX11_behind_18 (by decide) ?_
    refine a_isub dX11_behind_19 ?_
    refine a_iadd dX11_behind_20 ?_
    refine a_istore_n dX11_behind_21 rfl (Nat.le_of_ble_eq_true rfl) (lv2 := [(3, .int (x3 + (v10 - 1))), (0, .ref a0), (2, .int x2)]) rfl ?_
    refine a_iinc (v := (x2 + 1)) dX11_behind_22 rfl (by first | rfl | decide) (Nat.le_of_ble_eq_true rfl) (lv2 := [(2, .int (x2 + 1)), (3, .int (x3 + (v10 - 1))), (0, .ref a0)]) rfl ?_
    refine a_goto 4 dX11_behind_25 (by decide) ?_
    exact a_lv (lv2 := [(0, .ref a0), (2, .int (x2 + 1)), (3, .int (x3 + (v10 - 1)))]) (fa_cons rfl (fa_cons rfl (fa_cons rfl fa_nil))) (hJ _ _ _ h)
set_option maxHeartbeats 4000000 in
set_option maxRecDepth 100000 in
noncomputable def st_X11_behind (n : Nat) (s : Sg) : Option (Sg ⊕ (Int32 × Mem)) := if s.1 = 0 then vR s.2.1 none (fun a0 t => vI t none (fun x1 t => vE t none (T_X11_behind_0 (fun c l M => some (.inl (c, l, M))) (fun v M => some (.inr (v, M))) none n a0 x1 s.2.2))) else if s.1 = 4 then vR s.2.1 none (fun a0 t => vI t none (fun x2 t => vI t none (fun x3 t => vE t none (T_X11_behind_4 (fun c l M => some (.inl (c, l, M))) (fun v M => some (.inr (v, M))) none n a0 x2 x3 s.2.2)))) else none
noncomputable abbrev g_X11_behind_0 (n : Nat) (a0 : Nat) (x1 : Int32) (M : Mem) : Option (Int32 × Mem) := lp (st_X11_behind n) (0, [.ref a0, .int x1], M)
set_option maxHeartbeats 4000000 in
set_option maxRecDepth 100000 in
theorem ge_X11_behind_0 (n : Nat) (a0 : Nat) (x1 : Int32) (M : Mem) : g_X11_behind_0 n a0 x1 M = T_X11_behind_0 (fun c l M => lp (st_X11_behind n) (c, l, M)) (fun v M => some (v, M)) none n a0 x1 M := (lp_eq _ _).trans (n_X11_behind_0 (lpK (st_X11_behind n)) (fun c l M => some (.inl (c, l, M))) (fun v M => some (.inr (v, M))) none n a0 x1 M)
noncomputable abbrev g_X11_behind_4 (n : Nat) (a0 : Nat) (x2 : Int32) (x3 : Int32) (M : Mem) : Option (Int32 × Mem) := lp (st_X11_behind n) (4, [.ref a0, .int x2, .int x3], M)
set_option maxHeartbeats 4000000 in
set_option maxRecDepth 100000 in
theorem ge_X11_behind_4 (n : Nat) (a0 : Nat) (x2 : Int32) (x3 : Int32) (M : Mem) : g_X11_behind_4 n a0 x2 x3 M = T_X11_behind_4 (fun c l M => lp (st_X11_behind n) (c, l, M)) (fun v M => some (v, M)) none n a0 x2 x3 M := (lp_eq _ _).trans (n_X11_behind_4 (lpK (st_X11_behind n)) (fun c l M => some (.inl (c, l, M))) (fun v M => some (.inr (v, M))) none n a0 x2 x3 M)
noncomputable def b_X11_behind (n : Nat) (a0 : Nat) (x1 : Int32) (M : Mem) : Option (Int32 × Mem) := g_X11_behind_0 n a0 x1 M
set_option maxHeartbeats 4000000 in
set_option maxRecDepth 100000 in
theorem sb_X11_behind {X : Nat × (Nat → Int32)} {al : Bool} {n : Nat} {a0 : Nat} {x1 : Int32} {M : Mem} {v : Int32} {M1 : Mem} (h : b_X11_behind n a0 x1 M = some (v, M1)) : AE yX11_behind cX11_behind 4 (some .int) al n X [.ref a0, .int x1] M (some (.int v)) M1 := by
  refine AM.of false (by decide +kernel) (by intro h; cases h) (Nat.le_of_ble_eq_true rfl) ?_
  refine lp_snd (P := fun s r => PW_X11_behind X al n (fun v M2 => v = (some (.int r.1)) ∧ M2 = r.2) s.1 s.2.1 s.2.2) ?_ h
  clear h
  rintro ⟨c, l, M⟩ r h
  unfold st_X11_behind at h
  rcases ite_p h with ⟨e, h⟩ | ⟨e, h⟩
  · replace e : c = 0 := e
    subst e
    obtain ⟨a0, tt0, e, h⟩ := vR_p id h
    replace e : l = _ := e
    subst e
    obtain ⟨x1, tt1, e, h⟩ := vI_p id h
    replace e : tt0 = _ := e
    subst e
    obtain ⟨e, h⟩ := vE_p id h
    replace e : tt1 = [] := e
    subst e
    exact w_X11_behind_0 (J := fun c l M => PW_X11_behind X al n (fun v M2 => v = (some (.int r.1)) ∧ M2 = r.2) c l M) (R := fun v M => (v, M) = r) (fun _ _ _ h => h) (fun v M h => by cases h; exact ⟨rfl, rfl⟩) ((n_X11_behind_0 (lpP (fun (s : Sg) (r : Int32 × Mem) => PW_X11_behind X al n (fun v M2 => v = (some (.int r.1)) ∧ M2 = r.2) s.1 s.2.1 s.2.2) r) (fun c l M => some (.inl (c, l, M))) (fun v M => some (.inr (v, M))) none n a0 x1 M).mp h)
  rcases ite_p h with ⟨e, h⟩ | ⟨e, h⟩
  · replace e : c = 4 := e
    subst e
    obtain ⟨a0, tt0, e, h⟩ := vR_p id h
    replace e : l = _ := e
    subst e
    obtain ⟨x2, tt1, e, h⟩ := vI_p id h
    replace e : tt0 = _ := e
    subst e
    obtain ⟨x3, tt2, e, h⟩ := vI_p id h
    replace e : tt1 = _ := e
    subst e
    obtain ⟨e, h⟩ := vE_p id h
    replace e : tt2 = [] := e
    subst e
    exact w_X11_behind_4 (J := fun c l M => PW_X11_behind X al n (fun v M2 => v = (some (.int r.1)) ∧ M2 = r.2) c l M) (R := fun v M => (v, M) = r) (fun _ _ _ h => h) (fun v M h => by cases h; exact ⟨rfl, rfl⟩) ((n_X11_behind_4 (lpP (fun (s : Sg) (r : Int32 × Mem) => PW_X11_behind X al n (fun v M2 => v = (some (.int r.1)) ∧ M2 = r.2) s.1 s.2.1 s.2.2) r) (fun c l M => some (.inl (c, l, M))) (fun v M => some (.inr (v, M))) none n a0 x2 x3 M).mp h)
  · exact h.elim

noncomputable abbrev f_X11_behind := b_X11_behind
theorem s_X11_behind {X : Nat × (Nat → Int32)} {al : Bool} {n : Nat} {a0 : Nat} {x1 : Int32} {M : Mem} {v : Int32} {M1 : Mem} (h : f_X11_behind n a0 x1 M = some (v, M1)) : AE yX11_behind cX11_behind 4 (some .int) al n X [.ref a0, .int x1] M (some (.int v)) M1 := sb_X11_behind h
