/-! METHODS AS FUNCTIONS, written by wip/gen/shallow.py -/
def ix_X3_arrange (c : Nat) : List Nat := if c = 0 then [0, 1] else if c = 15 then [0, 2] else if c = 43 then [0, 2, 3, 4] else if c = 73 then [0] else if c = 108 then [0, 2] else []
def PW_X3_arrange (X : Nat × (Nat → Int32)) (al : Bool) (n : Nat) (Q : Option Value → Mem → Prop) (c : Nat) (l : List Value) (M : Mem) : Prop := AW X (RX3, cX3_arrange, 5, none, false, al, n) 0 0 c (List.zip (ix_X3_arrange c) l) (l.drop (ix_X3_arrange c).length) M Q
set_option maxHeartbeats 4000000 in
set_option maxRecDepth 100000 in
noncomputable def T_X3_arrange_0.{u} {α : Sort u} (J : Nat → List Value → Mem → α) (R : Unit → Mem → α) (N : α) (n : Nat) (a0 : Nat) (a1 : Nat) (M : Mem) : α := gd (fO M a0 3) N (bnd ((wR M a0 2 (some a1)).2.2.2.2 a0 2) N (fun r3 => gd (fO M r3 9) N (J 15 [.ref a0, .int ((M.2.2.1 r3 2) - 1)] (wR M a0 2 (some a1)))))
set_option maxHeartbeats 4000000 in
set_option maxRecDepth 100000 in
theorem n_X3_arrange_0.{u, v} {α : Sort u} {β : Sort v} (h : α → β) (J : Nat → List Value → Mem → α) (R : Unit → Mem → α) (N : α) (n : Nat) (a0 : Nat) (a1 : Nat) (M : Mem) : h (T_X3_arrange_0 J R N n a0 a1 M) = T_X3_arrange_0 (fun c l M => h (J c l M)) (fun v M => h (R v M)) (h N) n a0 a1 M := by
  simp only [T_X3_arrange_0, nat_ite h, nat_gd h, nat_bnd h, nat_bnd2 h]
set_option maxHeartbeats 4000000 in
set_option maxRecDepth 100000 in
theorem w_X3_arrange_0 {X : Nat × (Nat → Int32)} {al : Bool} {n : Nat} {Q : Option Value → Mem → Prop} {J : Nat → List Value → Mem → Prop} (hJ : ∀ c l M, J c l M → PW_X3_arrange X al n Q c l M) {R : Unit → Mem → Prop} (hR : ∀ v M, R v M → Q none M) {a0 : Nat} {a1 : Nat} {M : Mem} (h : T_X3_arrange_0 J R False n a0 a1 M) : AW X (RX3, cX3_arrange, 5, none, false, al, n) 0 0 0 [(0, .ref a0), (1, .ref a1)] [] M Q := by
  unfold T_X3_arrange_0 at h
  refine a_aload_n dX3_arrange_0 rfl rfl ?_
  refine a_aload_n dX3_arrange_1 rfl rfl ?_
  obtain ⟨⟨ga1, gs2⟩, h⟩ := gd_t h
  refine a_putR dX3_arrange_2 (Or.inl ⟨fl_3_50, Or.inl rfl⟩) rfl ga1 gs2 ?_
  refine a_aload_n dX3_arrange_5 rfl rfl ?_
  obtain ⟨r3, e4, h⟩ := bnd_t h
  refine a_get (v := .ref r3) dX3_arrange_6 fl_3_50 ga1 gs2 (gvR e4 rfl) ?_
  obtain ⟨⟨ga5, gs6⟩, h⟩ := gd_t h
  refine a_getN (v := .int (M.2.2.1 r3 2)) dX3_arrange_9 fn_3_54 ga5 gs6 rfl ?_
  refine a_iconst (v := 1) dX3_arrange_12 (by decide) ?_
  refine a_isub dX3_arrange_13 ?_
  refine a_istore_n dX3_arrange_14 rfl (Nat.le_of_ble_eq_true rfl) (lv2 := [(2, .int ((M.2.2.1 r3 2) - 1)), (0, .ref a0), (1, .ref a1)]) rfl ?_
  exact a_lv (lv2 := [(0, .ref a0), (2, .int ((M.2.2.1 r3 2) - 1))]) (fa_cons rfl (fa_cons rfl fa_nil)) (hJ _ _ _ h)
set_option maxHeartbeats 4000000 in
set_option maxRecDepth 100000 in
noncomputable def T_X3_arrange_15.{u} {α : Sort u} (J : Nat → List Value → Mem → α) (R : Unit → Mem → α) (N : α) (n : Nat) (a0 : Nat) (x2 : Int32) (M : Mem) : α := if x2 < 0 then J 73 [.ref a0] M else if 200 ≤ x2 then J 73 [.ref a0] M else gd (fO M a0 3) N (bnd (M.2.2.2.2 a0 2) N (fun r5 => gd (fO M r5 9) N (bnd2 (cal n (fun n => f_X9_opAt n r5 x2 M)) N (fun v9 M10 => bnd2 (cal n (fun n => f_X10_arity n v9 M10)) N (fun v14 M15 => J 43 [.ref a0, .int x2, .int (x2 + 1), .int v14] M15)))))
set_option maxHeartbeats 4000000 in
set_option maxRecDepth 100000 in
theorem n_X3_arrange_15.{u, v} {α : Sort u} {β : Sort v} (h : α → β) (J : Nat → List Value → Mem → α) (R : Unit → Mem → α) (N : α) (n : Nat) (a0 : Nat) (x2 : Int32) (M : Mem) : h (T_X3_arrange_15 J R N n a0 x2 M) = T_X3_arrange_15 (fun c l M => h (J c l M)) (fun v M => h (R v M)) (h N) n a0 x2 M := by
  simp only [T_X3_arrange_15, nat_ite h, nat_gd h, nat_bnd h, nat_bnd2 h]
set_option maxHeartbeats 4000000 in
set_option maxRecDepth 100000 in
theorem w_X3_arrange_15 {X : Nat × (Nat → Int32)} {al : Bool} {n : Nat} {Q : Option Value → Mem → Prop} {J : Nat → List Value → Mem → Prop} (hJ : ∀ c l M, J c l M → PW_X3_arrange X al n Q c l M) {R : Unit → Mem → Prop} (hR : ∀ v M, R v M → Q none M) {a0 : Nat} {x2 : Int32} {M : Mem} (h : T_X3_arrange_15 J R False n a0 x2 M) : AW X (RX3, cX3_arrange, 5, none, false, al, n) 0 0 15 [(0, .ref a0), (2, .int x2)] [] M Q := by
  unfold T_X3_arrange_15 at h
  refine a_iload_n dX3_arrange_15 rfl rfl ?_
  refine a_if_lt 73 dX3_arrange_16 (by decide) (fun c1 => ?_) (fun c1 => ?_)
  · replace h := ite_t c1 h
    exact a_lv (lv2 := [(0, .ref a0)]) (fa_cons rfl fa_nil) (hJ _ _ _ h)
  · replace h := ite_f c1 h
    refine a_iload_n dX3_arrange_19 rfl rfl ?_
    refine a_sipush (v := 200) dX3_arrange_20 (by decide) ?_
    refine a_icmp_ge 73 dX3_arrange_23 (by decide) (fun c2 => ?_) (fun c2 => ?_)
    · replace h := ite_t c2 h
      exact a_lv (lv2 := [(0, .ref a0)]) (fa_cons rfl fa_nil) (hJ _ _ _ h)
    · replace h := ite_f c2 h
      refine a_iload_n dX3_arrange_26 rfl rfl ?_
      refine a_iconst (v := 1) dX3_arrange_27 (by decide) ?_
      refine a_iadd dX3_arrange_28 ?_
      refine a_istore_n dX3_arrange_29 rfl (Nat.le_of_ble_eq_true rfl) (lv2 := [(3, .int (x2 + 1)), (0, .ref a0), (2, .int x2)]) rfl ?_
      refine a_aload_n dX3_arrange_30 rfl rfl ?_
      obtain ⟨⟨ga3, gs4⟩, h⟩ := gd_t h
      obtain ⟨r5, e6, h⟩ := bnd_t h
      refine a_get (v := .ref r5) dX3_arrange_31 fl_3_50 ga3 gs4 (gvR e6 rfl) ?_
      refine a_iload_n dX3_arrange_34 rfl rfl ?_
      obtain ⟨⟨ga7, gs8⟩, h⟩ := gd_t h
      obtain ⟨v9, M10, e11, h⟩ := bnd2_t h
      obtain ⟨n12, en13, e11⟩ := cal_t e11
      refine e_callV (As := [.int x2]) (st := []) (a := r5) (ci := 9) false dX3_arrange_35 mw_X9_opAt (Or.inl ⟨rfl, ml_X3_58⟩) im_X9_opAt se_X9_opAt (by decide) ga7 gs8 rfl (Nat.le_of_ble_eq_true rfl) en13 (s_X9_opAt e11) ?_
      obtain ⟨v14, M15, e16, h⟩ := bnd2_t h
      obtain ⟨n17, en18, e16⟩ := cal_t e16
      refine e_callS (As := [.int v9]) (st := []) true dX3_arrange_38 mw_X10_arity (Or.inr ⟨rfl, mn_X3_62⟩) sm_X10_arity rfl (Nat.le_of_ble_eq_true rfl) en18 (s_X10_arity e16) ?_
      refine a_istore dX3_arrange_41 (Nat.le_of_ble_eq_true rfl) (lv2 := [(4, .int v14), (3, .int (x2 + 1)), (0, .ref a0), (2, .int x2)]) rfl ?_
      exact a_lv (lv2 := [(0, .ref a0), (2, .int x2), (3, .int (x2 + 1)), (4, .int v14)]) (fa_cons rfl (fa_cons rfl (fa_cons rfl (fa_cons rfl fa_nil)))) (hJ _ _ _ h)
set_option maxHeartbeats 4000000 in
set_option maxRecDepth 100000 in
noncomputable def T_X3_arrange_43.{u} {α : Sort u} (J : Nat → List Value → Mem → α) (R : Unit → Mem → α) (N : α) (n : Nat) (a0 : Nat) (x2 : Int32) (x3 : Int32) (x4 : Int32) (M : Mem) : α := if x4 ≤ 0 then gd (fO M a0 3) N (bnd (M.2.2.2.2 a0 3) N (fun r4 => gd (fA M r4 1 x2) N (J 15 [.ref a0, .int (x2 + (-1))] (wI M r4 (x2.toNatClampNeg) x3)))) else gd (fO M a0 3) N (bnd2 (cal n (fun n => f_X3_endOf n a0 x3 M)) N (fun v12 M13 => J 43 [.ref a0, .int x2, .int v12, .int (x4 + (-1))] M13))
set_option maxHeartbeats 4000000 in
set_option maxRecDepth 100000 in
theorem n_X3_arrange_43.{u, v} {α : Sort u} {β : Sort v} (h : α → β) (J : Nat → List Value → Mem → α) (R : Unit → Mem → α) (N : α) (n : Nat) (a0 : Nat) (x2 : Int32) (x3 : Int32) (x4 : Int32) (M : Mem) : h (T_X3_arrange_43 J R N n a0 x2 x3 x4 M) = T_X3_arrange_43 (fun c l M => h (J c l M)) (fun v M => h (R v M)) (h N) n a0 x2 x3 x4 M := by
  simp only [T_X3_arrange_43, nat_ite h, nat_gd h, nat_bnd h, nat_bnd2 h]
set_option maxHeartbeats 4000000 in
set_option maxRecDepth 100000 in
theorem w_X3_arrange_43 {X : Nat × (Nat → Int32)} {al : Bool} {n : Nat} {Q : Option Value → Mem → Prop} {J : Nat → List Value → Mem → Prop} (hJ : ∀ c l M, J c l M → PW_X3_arrange X al n Q c l M) {R : Unit → Mem → Prop} (hR : ∀ v M, R v M → Q none M) {a0 : Nat} {x2 : Int32} {x3 : Int32} {x4 : Int32} {M : Mem} (h : T_X3_arrange_43 J R False n a0 x2 x3 x4 M) : AW X (RX3, cX3_arrange, 5, none, false, al, n) 0 0 43 [(0, .ref a0), (2, .int x2), (3, .int x3), (4, .int x4)] [] M Q := by
  unfold T_X3_arrange_43 at h
  refine a_iload dX3_arrange_43 rfl ?_
  refine a_if_le 60 dX3_arrange_45 (by decide) (fun c1 => ?_) (fun c1 => ?_)
  · replace h := ite_t c1 h
    refine a_aload_n dX3_arrange_60 rfl rfl ?_
    obtain ⟨⟨ga2, gs3⟩, h⟩ := gd_t h
    obtain ⟨r4, e5, h⟩ := bnd_t h
    refine a_get (v := .ref r4) dX3_arrange_61 fl_3_9 ga2 gs3 (gvR e5 rfl) ?_
    refine a_iload_n dX3_arrange_64 rfl rfl ?_
    refine a_iload_n dX3_arrange_65 rfl rfl ?_
    obtain ⟨⟨ga6, gn7, gs8, gi9⟩, h⟩ := gd_t h
    refine a_iastore dX3_arrange_66 ga6 gs8 gi9 ?_
    refine a_iinc (v := (x2 + (-1))) dX3_arrange_67 rfl (by first | rfl | decide) (Nat.le_of_ble_eq_true rfl) (lv2 := [(2, .int (x2 + (-1))), (0, .ref a0), (3, .int x3), (4, .int x4)]) rfl ?_
    refine a_goto 15 dX3_arrange_70 (by decide) ?_
    exact a_lv (lv2 := [(0, .ref a0), (2, .int (x2 + (-1)))]) (fa_cons rfl (fa_cons rfl fa_nil)) (hJ _ _ _ h)
  · replace h := ite_f c1 h
    refine a_aload_n dX3_arrange_48 rfl rfl ?_
    refine a_iload_n dX3_arrange_49 rfl rfl ?_
    obtain ⟨⟨ga10, gs11⟩, h⟩ := gd_t h
    obtain ⟨v12, M13, e14, h⟩ := bnd2_t h
    obtain ⟨n15, en16, e14⟩ := cal_t e14
    refine e_callV (As := [.int x3]) (st := []) (a := a0) (ci := 3) false dX3_arrange_50 mw_X3_endOf (Or.inl ⟨rfl, ml_X3_65⟩) im_X3_endOf se_X3_endOf (by decide) ga10 gs11 rfl (Nat.le_of_ble_eq_true rfl) en16 (s_X3_endOf e14) ?_
    refine a_istore_n dX3_arrange_53 rfl (Nat.le_of_ble_eq_true rfl) (lv2 := [(3, .int v12), (0, .ref a0), (2, .int x2), (4, .int x4)]) rfl ?_
    refine a_iinc (v := (x4 + (-1))) dX3_arrange_54 rfl (by first | rfl | decide) (Nat.le_of_ble_eq_true rfl) (lv2 := [(4, .int (x4 + (-1))), (3, .int v12), (0, .ref a0), (2, .int x2)]) rfl ?_
    refine a_goto 43 dX3_arrange_57 (by decide) ?_
    exact a_lv (lv2 := [(0, .ref a0), (2, .int x2), (3, .int v12), (4, .int (x4 + (-1)))]) (fa_cons rfl (fa_cons rfl (fa_cons rfl (fa_cons rfl fa_nil)))) (hJ _ _ _ h)
set_option maxHeartbeats 4000000 in
set_option maxRecDepth 100000 in
noncomputable def T_X3_arrange_73.{u} {α : Sort u} (J : Nat → List Value → Mem → α) (R : Unit → Mem → α) (N : α) (n : Nat) (a0 : Nat) (M : Mem) : α := gd (fO M a0 3) N (bnd (M.2.2.2.2 a0 5) N (fun r3 => gd (fA M r3 1 0) N (bnd (M.2.2.2.2 a0 6) N (fun r9 => gd (fA M r9 1 0) N (bnd (M.2.2.2.2 a0 7) N (fun r15 => gd (fA M r15 1 0) N (bnd (M.2.2.2.2 a0 4) N (fun r21 => gd (fA M r21 1 0) N (J 108 [.ref a0, .int 0] (wI (wI (wI (wI (wI M r3 ((0 : Int32).toNatClampNeg) (-1)) r9 ((0 : Int32).toNatClampNeg) 0) r15 ((0 : Int32).toNatClampNeg) 1) r21 ((0 : Int32).toNatClampNeg) 0) a0 12 0))))))))))
set_option maxHeartbeats 4000000 in
set_option maxRecDepth 100000 in
theorem n_X3_arrange_73.{u, v} {α : Sort u} {β : Sort v} (h : α → β) (J : Nat → List Value → Mem → α) (R : Unit → Mem → α) (N : α) (n : Nat) (a0 : Nat) (M : Mem) : h (T_X3_arrange_73 J R N n a0 M) = T_X3_arrange_73 (fun c l M => h (J c l M)) (fun v M => h (R v M)) (h N) n a0 M := by
  simp only [T_X3_arrange_73, nat_ite h, nat_gd h, nat_bnd h, nat_bnd2 h]
set_option maxHeartbeats 4000000 in
set_option maxRecDepth 100000 in
theorem w_X3_arrange_73 {X : Nat × (Nat → Int32)} {al : Bool} {n : Nat} {Q : Option Value → Mem → Prop} {J : Nat → List Value → Mem → Prop} (hJ : ∀ c l M, J c l M → PW_X3_arrange X al n Q c l M) {R : Unit → Mem → Prop} (hR : ∀ v M, R v M → Q none M) {a0 : Nat} {M : Mem} (h : T_X3_arrange_73 J R False n a0 M) : AW X (RX3, cX3_arrange, 5, none, false, al, n) 0 0 73 [(0, .ref a0)] [] M Q := by
  unfold T_X3_arrange_73 at h
  refine a_aload_n dX3_arrange_73 rfl rfl ?_
  obtain ⟨⟨ga1, gs2⟩, h⟩ := gd_t h
  obtain ⟨r3, e4, h⟩ := bnd_t h
  refine a_get (v := .ref r3) dX3_arrange_74 fl_3_18 ga1 gs2 (gvR e4 rfl) ?_
  refine a_iconst (v := 0) dX3_arrange_77 (by decide) ?_
  refine a_iconst (v := -1) dX3_arrange_78 (by decide) ?_
  obtain ⟨⟨ga5, gn6, gs7, gi8⟩, h⟩ := gd_t h
  refine a_iastore dX3_arrange_79 ga5 gs7 gi8 ?_
  refine a_aload_n dX3_arrange_80 rfl rfl ?_
  obtain ⟨r9, e10, h⟩ := bnd_t h
  refine a_get (v := .ref r9) dX3_arrange_81 fl_3_21 ga1 gs2 (gvR e10 rfl) ?_
  refine a_iconst (v := 0) dX3_arrange_84 (by decide) ?_
  refine a_iconst (v := 0) dX3_arrange_85 (by decide) ?_
  obtain ⟨⟨ga11, gn12, gs13, gi14⟩, h⟩ := gd_t h
  refine a_iastore dX3_arrange_86 ga11 gs13 gi14 ?_
  refine a_aload_n dX3_arrange_87 rfl rfl ?_
  obtain ⟨r15, e16, h⟩ := bnd_t h
  refine a_get (v := .ref r15) dX3_arrange_88 fl_3_24 ga1 gs2 (gvR e16 rfl) ?_
  refine a_iconst (v := 0) dX3_arrange_91 (by decide) ?_
  refine a_iconst (v := 1) dX3_arrange_92 (by decide) ?_
  obtain ⟨⟨ga17, gn18, gs19, gi20⟩, h⟩ := gd_t h
  refine a_iastore dX3_arrange_93 ga17 gs19 gi20 ?_
  refine a_aload_n dX3_arrange_94 rfl rfl ?_
  obtain ⟨r21, e22, h⟩ := bnd_t h
  refine a_get (v := .ref r21) dX3_arrange_95 fl_3_15 ga1 gs2 (gvR e22 rfl) ?_
  refine a_iconst (v := 0) dX3_arrange_98 (by decide) ?_
  refine a_iconst (v := 0) dX3_arrange_99 (by decide) ?_
  obtain ⟨⟨ga23, gn24, gs25, gi26⟩, h⟩ := gd_t h
  refine a_iastore dX3_arrange_100 ga23 gs25 gi26 ?_
  refine a_aload_n dX3_arrange_101 rfl rfl ?_
  refine a_iconst (v := 0) dX3_arrange_102 (by decide) ?_
  refine a_putI dX3_arrange_103 (Or.inl ⟨fl_3_68, Or.inl rfl⟩) rfl ga1 gs2 rfl rfl ?_
  refine a_iconst (v := 0) dX3_arrange_106 (by decide) ?_
  refine a_istore_n dX3_arrange_107 rfl (Nat.le_of_ble_eq_true rfl) (lv2 := [(2, .int 0), (0, .ref a0)]) rfl ?_
  exact a_lv (lv2 := [(0, .ref a0), (2, .int 0)]) (fa_cons rfl (fa_cons rfl fa_nil)) (hJ _ _ _ h)
set_option maxHeartbeats 4000000 in
set_option maxRecDepth 100000 in
noncomputable def T_X3_arrange_108.{u} {α : Sort u} (J : Nat → List Value → Mem → α) (R : Unit → Mem → α) (N : α) (n : Nat) (a0 : Nat) (x2 : Int32) (M : Mem) : α := gd (fO M a0 3) N (bnd (M.2.2.2.2 a0 2) N (fun r3 => gd (fO M r3 9) N (if (M.2.2.1 r3 2) ≤ x2 then R () M else if 200 ≤ x2 then R () M else bnd2 (cal n (fun n => f_X3_placeChildren n a0 x2 M)) N (fun _ M9 => gd (fO M9 a0 3) N (bnd2 (cal n (fun n => f_X3_bind n a0 x2 M9)) N (fun _ M15 => gd (fO M15 a0 3) N (bnd (M15.2.2.2.2 a0 2) N (fun r21 => gd (fO M15 r21 9) N (bnd2 (cal n (fun n => f_X9_opAt n r21 x2 M15)) N (fun v25 M26 => bnd2 (cal n (fun n => f_X10_arity n v25 M26)) N (fun v30 M31 => if v30 = 0 then gd (fO M31 a0 3) N (bnd2 (cal n (fun n => f_X3_walkOut n a0 x2 M31)) N (fun _ M38 => J 108 [.ref a0, .int (x2 + 1)] M38)) else J 108 [.ref a0, .int (x2 + 1)] M31)))))))))))
set_option maxHeartbeats 4000000 in
set_option maxRecDepth 100000 in
theorem n_X3_arrange_108.{u, v} {α : Sort u} {β : Sort v} (h : α → β) (J : Nat → List Value → Mem → α) (R : Unit → Mem → α) (N : α) (n : Nat) (a0 : Nat) (x2 : Int32) (M : Mem) : h (T_X3_arrange_108 J R N n a0 x2 M) = T_X3_arrange_108 (fun c l M => h (J c l M)) (fun v M => h (R v M)) (h N) n a0 x2 M := by
  simp only [T_X3_arrange_108, nat_ite h, nat_gd h, nat_bnd h, nat_bnd2 h]
set_option maxHeartbeats 4000000 in
set_option maxRecDepth 100000 in
theorem w_X3_arrange_108 {X : Nat × (Nat → Int32)} {al : Bool} {n : Nat} {Q : Option Value → Mem → Prop} {J : Nat → List Value → Mem → Prop} (hJ : ∀ c l M, J c l M → PW_X3_arrange X al n Q c l M) {R : Unit → Mem → Prop} (hR : ∀ v M, R v M → Q none M) {a0 : Nat} {x2 : Int32} {M : Mem} (h : T_X3_arrange_108 J R False n a0 x2 M) : AW X (RX3, cX3_arrange, 5, none, false, al, n) 0 0 108 [(0, .ref a0), (2, .int x2)] [] M Q := by
  unfold T_X3_arrange_108 at h
  refine a_iload_n dX3_arrange_108 rfl rfl ?_
  refine a_aload_n dX3_arrange_109 rfl rfl ?_
  obtain ⟨⟨ga1, gs2⟩, h⟩ := gd_t h
  obtain ⟨r3, e4, h⟩ := bnd_t h
  refine a_get (v := .ref r3) dX3_arrange_110 fl_3_50 ga1 gs2 (gvR e4 rfl) ?_
  obtain ⟨⟨ga5, gs6⟩, h⟩ := gd_t h
  refine a_getN (v := .int (M.2.2.1 r3 2)) dX3_arrange_113 fn_3_54 ga5 gs6 rfl ?_
  refine a_icmp_ge 161 dX3_arrange_116 (by decide) (fun c7 => ?_) (fun c7 => ?_)
  · replace h := ite_t c7 h
    exact a_vret dX3_arrange_161 rfl (hR _ _ h)
  · replace h := ite_f c7 h
    refine a_iload_n dX3_arrange_119 rfl rfl ?_
    refine a_sipush (v := 200) dX3_arrange_120 (by decide) ?_
    refine a_icmp_ge 161 dX3_arrange_123 (by decide) (fun c8 => ?_) (fun c8 => ?_)
    · replace h := ite_t c8 h
      exact a_vret dX3_arrange_161 rfl (hR _ _ h)
    · replace h := ite_f c8 h
      refine a_aload_n dX3_arrange_126 rfl rfl ?_
      refine a_iload_n dX3_arrange_127 rfl rfl ?_
      obtain ⟨_, M9, e10, h⟩ := bnd2_t h
      obtain ⟨n11, en12, e10⟩ := cal_t e10
      refine e_callV (As := [.int x2]) (st := []) (a := a0) (ci := 3) false dX3_arrange_128 mw_X3_placeChildren (Or.inl ⟨rfl, ml_X3_71⟩) im_X3_placeChildren se_X3_placeChildren (by decide) ga1 gs2 rfl (Nat.le_of_ble_eq_true rfl) en12 (s_X3_placeChildren e10) ?_
      refine a_aload_n dX3_arrange_131 rfl rfl ?_
      refine a_iload_n dX3_arrange_132 rfl rfl ?_
      obtain ⟨⟨ga13, gs14⟩, h⟩ := gd_t h
      obtain ⟨_, M15, e16, h⟩ := bnd2_t h
      obtain ⟨n17, en18, e16⟩ := cal_t e16
      refine e_callV (As := [.int x2]) (st := []) (a := a0) (ci := 3) false dX3_arrange_133 mw_X3_bind (Or.inl ⟨rfl, ml_X3_75⟩) im_X3_bind se_X3_bind (by decide) ga13 gs14 rfl (Nat.le_of_ble_eq_true rfl) en18 (s_X3_bind e16) ?_
      refine a_aload_n dX3_arrange_136 rfl rfl ?_
      obtain ⟨⟨ga19, gs20⟩, h⟩ := gd_t h
      obtain ⟨r21, e22, h⟩ := bnd_t h
      refine a_get (v := .ref r21) dX3_arrange_137 fl_3_50 ga19 gs20 (gvR e22 rfl) ?_
      refine a_iload_n dX3_arrange_140 rfl rfl ?_
      obtain ⟨⟨ga23, gs24⟩, h⟩ := gd_t h
      obtain ⟨v25, M26, e27, h⟩ := bnd2_t h
      obtain ⟨n28, en29, e27⟩ := cal_t e27
      refine e_callV (As := [.int x2]) (st := []) (a := r21) (ci := 9) false dX3_arrange_141 mw_X9_opAt (Or.inl ⟨rfl, ml_X3_58⟩) im_X9_opAt se_X9_opAt (by decide) ga23 gs24 rfl (Nat.le_of_ble_eq_true rfl) en29 (s_X9_opAt e27) ?_
      obtain ⟨v30, M31, e32, h⟩ := bnd2_t h
      obtain ⟨n33, en34, e32⟩ := cal_t e32
      refine e_callS (As := [.int v25]) (st := []) true dX3_arrange_144 mw_X10_arity (Or.inr ⟨rfl, mn_X3_62⟩) sm_X10_arity rfl (Nat.le_of_ble_eq_true rfl) en34 (s_X10_arity e32) ?_
      refine a_if_ne 155 dX3_arrange_147 (by decide) (fun c35 => ?_) (fun c35 => ?_)
      · replace h := ite_f c35 h
        refine a_iinc (v := (x2 + 1)) dX3_arrange_155 rfl (by first | rfl | decide) (Nat.le_of_ble_eq_true rfl) (lv2 := [(2, .int (x2 + 1)), (0, .ref a0)]) rfl ?_
        refine a_goto 108 dX3_arrange_158 (by decide) ?_
        exact a_lv (lv2 := [(0, .ref a0), (2, .int (x2 + 1))]) (fa_cons rfl (fa_cons rfl fa_nil)) (hJ _ _ _ h)
      · replace h := ite_t c35 h
        refine a_aload_n dX3_arrange_150 rfl rfl ?_
        refine a_iload_n dX3_arrange_151 rfl rfl ?_
        obtain ⟨⟨ga36, gs37⟩, h⟩ := gd_t h
        obtain ⟨_, M38, e39, h⟩ := bnd2_t h
        obtain ⟨n40, en41, e39⟩ := cal_t e39
        refine e_callV (As := [.int x2]) (st := []) (a := a0) (ci := 3) false dX3_arrange_152 mw_X3_walkOut (Or.inl ⟨rfl, ml_X3_78⟩) im_X3_walkOut se_X3_walkOut (by decide) ga36 gs37 rfl (Nat.le_of_ble_eq_true rfl) en41 (s_X3_walkOut e39) ?_
        refine a_iinc (v := (x2 + 1)) dX3_arrange_155 rfl (by first | rfl | decide) (Nat.le_of_ble_eq_true rfl) (lv2 := [(2, .int (x2 + 1)), (0, .ref a0)]) rfl ?_
        refine a_goto 108 dX3_arrange_158 (by decide) ?_
        exact a_lv (lv2 := [(0, .ref a0), (2, .int (x2 + 1))]) (fa_cons rfl (fa_cons rfl fa_nil)) (hJ _ _ _ h)
set_option maxHeartbeats 4000000 in
set_option maxRecDepth 100000 in
noncomputable def st_X3_arrange (n : Nat) (s : Sg) : Option (Sg ⊕ (Unit × Mem)) := if s.1 = 0 then vR s.2.1 none (fun a0 t => vR t none (fun a1 t => vE t none (T_X3_arrange_0 (fun c l M => some (.inl (c, l, M))) (fun v M => some (.inr (v, M))) none n a0 a1 s.2.2))) else if s.1 = 15 then vR s.2.1 none (fun a0 t => vI t none (fun x2 t => vE t none (T_X3_arrange_15 (fun c l M => some (.inl (c, l, M))) (fun v M => some (.inr (v, M))) none n a0 x2 s.2.2))) else if s.1 = 43 then vR s.2.1 none (fun a0 t => vI t none (fun x2 t => vI t none (fun x3 t => vI t none (fun x4 t => vE t none (T_X3_arrange_43 (fun c l M => some (.inl (c, l, M))) (fun v M => some (.inr (v, M))) none n a0 x2 x3 x4 s.2.2))))) else if s.1 = 73 then vR s.2.1 none (fun a0 t => vE t none (T_X3_arrange_73 (fun c l M => some (.inl (c, l, M))) (fun v M => some (.inr (v, M))) none n a0 s.2.2)) else if s.1 = 108 then vR s.2.1 none (fun a0 t => vI t none (fun x2 t => vE t none (T_X3_arrange_108 (fun c l M => some (.inl (c, l, M))) (fun v M => some (.inr (v, M))) none n a0 x2 s.2.2))) else none
noncomputable abbrev g_X3_arrange_0 (n : Nat) (a0 : Nat) (a1 : Nat) (M : Mem) : Option (Unit × Mem) := lp (st_X3_arrange n) (0, [.ref a0, .ref a1], M)
set_option maxHeartbeats 4000000 in
set_option maxRecDepth 100000 in
theorem ge_X3_arrange_0 (n : Nat) (a0 : Nat) (a1 : Nat) (M : Mem) : g_X3_arrange_0 n a0 a1 M = T_X3_arrange_0 (fun c l M => lp (st_X3_arrange n) (c, l, M)) (fun v M => some (v, M)) none n a0 a1 M := (lp_eq _ _).trans (n_X3_arrange_0 (lpK (st_X3_arrange n)) (fun c l M => some (.inl (c, l, M))) (fun v M => some (.inr (v, M))) none n a0 a1 M)
noncomputable abbrev g_X3_arrange_15 (n : Nat) (a0 : Nat) (x2 : Int32) (M : Mem) : Option (Unit × Mem) := lp (st_X3_arrange n) (15, [.ref a0, .int x2], M)
set_option maxHeartbeats 4000000 in
set_option maxRecDepth 100000 in
theorem ge_X3_arrange_15 (n : Nat) (a0 : Nat) (x2 : Int32) (M : Mem) : g_X3_arrange_15 n a0 x2 M = T_X3_arrange_15 (fun c l M => lp (st_X3_arrange n) (c, l, M)) (fun v M => some (v, M)) none n a0 x2 M := (lp_eq _ _).trans (n_X3_arrange_15 (lpK (st_X3_arrange n)) (fun c l M => some (.inl (c, l, M))) (fun v M => some (.inr (v, M))) none n a0 x2 M)
noncomputable abbrev g_X3_arrange_43 (n : Nat) (a0 : Nat) (x2 : Int32) (x3 : Int32) (x4 : Int32) (M : Mem) : Option (Unit × Mem) := lp (st_X3_arrange n) (43, [.ref a0, .int x2, .int x3, .int x4], M)
set_option maxHeartbeats 4000000 in
set_option maxRecDepth 100000 in
theorem ge_X3_arrange_43 (n : Nat) (a0 : Nat) (x2 : Int32) (x3 : Int32) (x4 : Int32) (M : Mem) : g_X3_arrange_43 n a0 x2 x3 x4 M = T_X3_arrange_43 (fun c l M => lp (st_X3_arrange n) (c, l, M)) (fun v M => some (v, M)) none n a0 x2 x3 x4 M := (lp_eq _ _).trans (n_X3_arrange_43 (lpK (st_X3_arrange n)) (fun c l M => some (.inl (c, l, M))) (fun v M => some (.inr (v, M))) none n a0 x2 x3 x4 M)
noncomputable abbrev g_X3_arrange_73 (n : Nat) (a0 : Nat) (M : Mem) : Option (Unit × Mem) := lp (st_X3_arrange n) (73, [.ref a0], M)
set_option maxHeartbeats 4000000 in
set_option maxRecDepth 100000 in
theorem ge_X3_arrange_73 (n : Nat) (a0 : Nat) (M : Mem) : g_X3_arrange_73 n a0 M = T_X3_arrange_73 (fun c l M => lp (st_X3_arrange n) (c, l, M)) (fun v M => some (v, M)) none n a0 M := (lp_eq _ _).trans (n_X3_arrange_73 (lpK (st_X3_arrange n)) (fun c l M => some (.inl (c, l, M))) (fun v M => some (.inr (v, M))) none n a0 M)
noncomputable abbrev g_X3_arrange_108 (n : Nat) (a0 : Nat) (x2 : Int32) (M : Mem) : Option (Unit × Mem) := lp (st_X3_arrange n) (108, [.ref a0, .int x2], M)
set_option maxHeartbeats 4000000 in
set_option maxRecDepth 100000 in
theorem ge_X3_arrange_108 (n : Nat) (a0 : Nat) (x2 : Int32) (M : Mem) : g_X3_arrange_108 n a0 x2 M = T_X3_arrange_108 (fun c l M => lp (st_X3_arrange n) (c, l, M)) (fun v M => some (v, M)) none n a0 x2 M := (lp_eq _ _).trans (n_X3_arrange_108 (lpK (st_X3_arrange n)) (fun c l M => some (.inl (c, l, M))) (fun v M => some (.inr (v, M))) none n a0 x2 M)
noncomputable def b_X3_arrange (n : Nat) (a0 : Nat) (a1 : Nat) (M : Mem) : Option (Unit × Mem) := g_X3_arrange_0 n a0 a1 M
set_option maxHeartbeats 4000000 in
set_option maxRecDepth 100000 in
theorem sb_X3_arrange {X : Nat × (Nat → Int32)} {al : Bool} {n : Nat} {a0 : Nat} {a1 : Nat} {M : Mem} {v : Unit} {M1 : Mem} (h : b_X3_arrange n a0 a1 M = some (v, M1)) : AE yX3_arrange cX3_arrange 5 none al n X [.ref a0, .ref a1] M none M1 := by
  refine AM.of false (by decide +kernel) (by intro h; cases h) (Nat.le_of_ble_eq_true rfl) ?_
  refine lp_snd (P := fun s r => PW_X3_arrange X al n (fun v M2 => v = none ∧ M2 = r.2) s.1 s.2.1 s.2.2) ?_ h
  clear h
  rintro ⟨c, l, M⟩ r h
  unfold st_X3_arrange at h
  rcases ite_p h with ⟨e, h⟩ | ⟨e, h⟩
  · replace e : c = 0 := e
    subst e
    obtain ⟨a0, tt0, e, h⟩ := vR_p id h
    replace e : l = _ := e
    subst e
    obtain ⟨a1, tt1, e, h⟩ := vR_p id h
    replace e : tt0 = _ := e
    subst e
    obtain ⟨e, h⟩ := vE_p id h
    replace e : tt1 = [] := e
    subst e
    exact w_X3_arrange_0 (J := fun c l M => PW_X3_arrange X al n (fun v M2 => v = none ∧ M2 = r.2) c l M) (R := fun v M => (v, M) = r) (fun _ _ _ h => h) (fun v M h => by cases h; exact ⟨rfl, rfl⟩) ((n_X3_arrange_0 (lpP (fun (s : Sg) (r : Unit × Mem) => PW_X3_arrange X al n (fun v M2 => v = none ∧ M2 = r.2) s.1 s.2.1 s.2.2) r) (fun c l M => some (.inl (c, l, M))) (fun v M => some (.inr (v, M))) none n a0 a1 M).mp h)
  rcases ite_p h with ⟨e, h⟩ | ⟨e, h⟩
  · replace e : c = 15 := e
    subst e
    obtain ⟨a0, tt0, e, h⟩ := vR_p id h
    replace e : l = _ := e
    subst e
    obtain ⟨x2, tt1, e, h⟩ := vI_p id h
    replace e : tt0 = _ := e
    subst e
    obtain ⟨e, h⟩ := vE_p id h
    replace e : tt1 = [] := e
    subst e
    exact w_X3_arrange_15 (J := fun c l M => PW_X3_arrange X al n (fun v M2 => v = none ∧ M2 = r.2) c l M) (R := fun v M => (v, M) = r) (fun _ _ _ h => h) (fun v M h => by cases h; exact ⟨rfl, rfl⟩) ((n_X3_arrange_15 (lpP (fun (s : Sg) (r : Unit × Mem) => PW_X3_arrange X al n (fun v M2 => v = none ∧ M2 = r.2) s.1 s.2.1 s.2.2) r) (fun c l M => some (.inl (c, l, M))) (fun v M => some (.inr (v, M))) none n a0 x2 M).mp h)
  rcases ite_p h with ⟨e, h⟩ | ⟨e, h⟩
  · replace e : c = 43 := e
    subst e
    obtain ⟨a0, tt0, e, h⟩ := vR_p id h
    replace e : l = _ := e
    subst e
    obtain ⟨x2, tt1, e, h⟩ := vI_p id h
    replace e : tt0 = _ := e
    subst e
    obtain ⟨x3, tt2, e, h⟩ := vI_p id h
    replace e : tt1 = _ := e
    subst e
    obtain ⟨x4, tt3, e, h⟩ := vI_p id h
    replace e : tt2 = _ := e
    subst e
    obtain ⟨e, h⟩ := vE_p id h
    replace e : tt3 = [] := e
    subst e
    exact w_X3_arrange_43 (J := fun c l M => PW_X3_arrange X al n (fun v M2 => v = none ∧ M2 = r.2) c l M) (R := fun v M => (v, M) = r) (fun _ _ _ h => h) (fun v M h => by cases h; exact ⟨rfl, rfl⟩) ((n_X3_arrange_43 (lpP (fun (s : Sg) (r : Unit × Mem) => PW_X3_arrange X al n (fun v M2 => v = none ∧ M2 = r.2) s.1 s.2.1 s.2.2) r) (fun c l M => some (.inl (c, l, M))) (fun v M => some (.inr (v, M))) none n a0 x2 x3 x4 M).mp h)
  rcases ite_p h with ⟨e, h⟩ | ⟨e, h⟩
  · replace e : c = 73 := e
    subst e
    obtain ⟨a0, tt0, e, h⟩ := vR_p id h
    replace e : l = _ := e
    subst e
    obtain ⟨e, h⟩ := vE_p id h
    replace e : tt0 = [] := e
    subst e
    exact w_X3_arrange_73 (J := fun c l M => PW_X3_arrange X al n (fun v M2 => v = none ∧ M2 = r.2) c l M) (R := fun v M => (v, M) = r) (fun _ _ _ h => h) (fun v M h => by cases h; exact ⟨rfl, rfl⟩) ((n_X3_arrange_73 (lpP (fun (s : Sg) (r : Unit × Mem) => PW_X3_arrange X al n (fun v M2 => v = none ∧ M2 = r.2) s.1 s.2.1 s.2.2) r) (fun c l M => some (.inl (c, l, M))) (fun v M => some (.inr (v, M))) none n a0 M).mp h)
  rcases ite_p h with ⟨e, h⟩ | ⟨e, h⟩
  · replace e : c = 108 := e
    subst e
    obtain ⟨a0, tt0, e, h⟩ := vR_p id h
    replace e : l = _ := e
    subst e
    obtain ⟨x2, tt1, e, h⟩ := vI_p id h
    replace e : tt0 = _ := e
    subst e
    obtain ⟨e, h⟩ := vE_p id h
    replace e : tt1 = [] := e
    subst e
    exact w_X3_arrange_108 (J := fun c l M => PW_X3_arrange X al n (fun v M2 => v = none ∧ M2 = r.2) c l M) (R := fun v M => (v, M) = r) (fun _ _ _ h => h) (fun v M h => by cases h; exact ⟨rfl, rfl⟩) ((n_X3_arrange_108 (lpP (fun (s : Sg) (r : Unit × Mem) => PW_X3_arrange X al n (fun v M2 => v = none ∧ M2 = r.2) s.1 s.2.1 s.2.2) r) (fun c l M => some (.inl (c, l, M))) (fun v M => some (.inr (v, M))) none n a0 x2 M).mp h)
  · exact h.elim

noncomputable abbrev f_X3_arrange := b_X3_arrange
theorem s_X3_arrange {X : Nat × (Nat → Int32)} {al : Bool} {n : Nat} {a0 : Nat} {a1 : Nat} {M : Mem} {v : Unit} {M1 : Mem} (h : f_X3_arrange n a0 a1 M = some (v, M1)) : AE yX3_arrange cX3_arrange 5 none al n X [.ref a0, .ref a1] M none M1 := sb_X3_arrange h
set_option maxHeartbeats 4000000 in
set_option maxRecDepth 100000 in
noncomputable def T_X3_stop_0.{u} {α : Sort u} (R : Int32 → Mem → α) (N : α) (n : Nat) (a0 : Nat) (x1 : Int32) (M : Mem) : α := if x1 < 0 then R 0 M else gd (fO M a0 3) N (if (M.2.2.1 a0 12) ≤ x1 then R 0 M else bnd (M.2.2.2.2 a0 11) N (fun r5 => bnd2 (cal n (fun n => f_X10_at n r5 x1 M)) N (fun v7 M8 => R v7 M8)))
set_option maxHeartbeats 4000000 in
set_option maxRecDepth 100000 in
theorem n_X3_stop_0.{u, v} {α : Sort u} {β : Sort v} (h : α → β) (R : Int32 → Mem → α) (N : α) (n : Nat) (a0 : Nat) (x1 : Int32) (M : Mem) : h (T_X3_stop_0 R N n a0 x1 M) = T_X3_stop_0 (fun v M => h (R v M)) (h N) n a0 x1 M := by
  simp only [T_X3_stop_0, nat_ite h, nat_gd h, nat_bnd h, nat_bnd2 h]
set_option maxHeartbeats 4000000 in
set_option maxRecDepth 100000 in
theorem w_X3_stop_0 {X : Nat × (Nat → Int32)} {al : Bool} {n : Nat} {Q : Option Value → Mem → Prop} {R : Int32 → Mem → Prop} (hR : ∀ v M, R v M → Q (some (.int v)) M) {a0 : Nat} {x1 : Int32} {M : Mem} (h : T_X3_stop_0 R False n a0 x1 M) : AW X (RX3, cX3_stop, 2, (some .int), false, al, n) 0 0 0 [(0, .ref a0), (1, .int x1)] [] M Q := by
  unfold T_X3_stop_0 at h
  refine a_iload_n dX3_stop_0 rfl rfl ?_
  refine a_if_lt 23 dX3_stop_1 (by decide) (fun c1 => ?_) (fun c1 => ?_)
  · replace h := ite_t c1 h
    refine a_iconst (v := 0) dX3_stop_23 (by decide) ?_
    exact a_iret dX3_stop_24 rfl (hR _ _ h)
  · replace h := ite_f c1 h
    refine a_iload_n dX3_stop_4 rfl rfl ?_
    refine a_aload_n dX3_stop_5 rfl rfl ?_
    obtain ⟨⟨ga2, gs3⟩, h⟩ := gd_t h
    refine a_get (v := .int (M.2.2.1 a0 12)) dX3_stop_6 fl_3_68 ga2 gs3 rfl ?_
    refine a_icmp_ge 23 dX3_stop_9 (by decide) (fun c4 => ?_) (fun c4 => ?_)
    · replace h := ite_t c4 h
      refine a_iconst (v := 0) dX3_stop_23 (by decide) ?_
      exact a_iret dX3_stop_24 rfl (hR _ _ h)
    · replace h := ite_f c4 h
      refine a_aload_n dX3_stop_12 rfl rfl ?_
      obtain ⟨r5, e6, h⟩ := bnd_t h
      refine a_get (v := .ref r5) dX3_stop_13 fl_3_36 ga2 gs3 (gvR e6 rfl) ?_
      refine a_iload_n dX3_stop_16 rfl rfl ?_
      obtain ⟨v7, M8, e9, h⟩ := bnd2_t h
      obtain ⟨n10, en11, e9⟩ := cal_t e9
      refine e_callS (As := [.ref r5, .int x1]) (st := []) true dX3_stop_17 mw_X10_at (Or.inr ⟨rfl, mn_X3_97⟩) sm_X10_at rfl (Nat.le_of_ble_eq_true rfl) en11 (s_X10_at e9) ?_
      refine a_goto 24 dX3_stop_20 (by decide) ?_
      exact a_iret dX3_stop_24 rfl (hR _ _ h)
noncomputable def b_X3_stop (n : Nat) (a0 : Nat) (x1 : Int32) (M : Mem) : Option (Int32 × Mem) := T_X3_stop_0 (fun v M => some (v, M)) none n a0 x1 M
set_option maxHeartbeats 4000000 in
set_option maxRecDepth 100000 in
theorem sb_X3_stop {X : Nat × (Nat → Int32)} {al : Bool} {n : Nat} {a0 : Nat} {x1 : Int32} {M : Mem} {v : Int32} {M1 : Mem} (h : b_X3_stop n a0 x1 M = some (v, M1)) : AE yX3_stop cX3_stop 2 (some .int) al n X [.ref a0, .int x1] M (some (.int v)) M1 := by
  refine AM.of false (by decide +kernel) (by intro h; cases h) (Nat.le_of_ble_eq_true rfl) ?_
  have h2 : T_X3_stop_0 (fun v2 M2 => some (v2, M2) = some (v, M1)) (none = some (v, M1)) n a0 x1 M := (n_X3_stop_0 (fun o => o = some (v, M1)) (fun v M => some (v, M)) none n a0 x1 M).mp h
  have h3 : ((none : Option (Int32 × Mem)) = some (v, M1)) = False := eq_false (by intro q; cases q)
  rw [h3] at h2
  exact w_X3_stop_0 (fun v2 M2 h => by cases h; exact ⟨rfl, rfl⟩) h2

noncomputable abbrev f_X3_stop := b_X3_stop
theorem s_X3_stop {X : Nat × (Nat → Int32)} {al : Bool} {n : Nat} {a0 : Nat} {x1 : Int32} {M : Mem} {v : Int32} {M1 : Mem} (h : f_X3_stop n a0 x1 M = some (v, M1)) : AE yX3_stop cX3_stop 2 (some .int) al n X [.ref a0, .int x1] M (some (.int v)) M1 := sb_X3_stop h
set_option maxHeartbeats 4000000 in
set_option maxRecDepth 100000 in
noncomputable def T_X3_typeOf_0.{u} {α : Sort u} (R : Int32 → Mem → α) (N : α) (n : Nat) (a0 : Nat) (x1 : Int32) (M : Mem) : α := if x1 < 0 then R (-1) M else if 200 ≤ x1 then R (-1) M else gd (fO M a0 3) N (bnd (M.2.2.2.2 a0 10) N (fun r5 => gd (fA M r5 1 x1) N (R (M.2.2.1 r5 (x1.toNatClampNeg)) M)))
set_option maxHeartbeats 4000000 in
set_option maxRecDepth 100000 in
theorem n_X3_typeOf_0.{u, v} {α : Sort u} {β : Sort v} (h : α → β) (R : Int32 → Mem → α) (N : α) (n : Nat) (a0 : Nat) (x1 : Int32) (M : Mem) : h (T_X3_typeOf_0 R N n a0 x1 M) = T_X3_typeOf_0 (fun v M => h (R v M)) (h N) n a0 x1 M := by
  simp only [T_X3_typeOf_0, nat_ite h, nat_gd h, nat_bnd h, nat_bnd2 h]
set_option maxHeartbeats 4000000 in
set_option maxRecDepth 100000 in
theorem w_X3_typeOf_0 {X : Nat × (Nat → Int32)} {al : Bool} {n : Nat} {Q : Option Value → Mem → Prop} {R : Int32 → Mem → Prop} (hR : ∀ v M, R v M → Q (some (.int v)) M) {a0 : Nat} {x1 : Int32} {M : Mem} (h : T_X3_typeOf_0 R False n a0 x1 M) : AW X (RX3, cX3_typeOf, 2, (some .int), false, al, n) 0 0 0 [(0, .ref a0), (1, .int x1)] [] M Q := by
  unfold T_X3_typeOf_0 at h
  refine a_iload_n dX3_typeOf_0 rfl rfl ?_
  refine a_if_lt 20 dX3_typeOf_1 (by decide) (fun c1 => ?_) (fun c1 => ?_)
  · replace h := ite_t c1 h
    refine a_iconst (v := -1) dX3_typeOf_20 (by decide) ?_
    exact a_iret dX3_typeOf_21 rfl (hR _ _ h)
  · replace h := ite_f c1 h
    refine a_iload_n dX3_typeOf_4 rfl rfl ?_
    refine a_sipush (v := 200) dX3_typeOf_5 (by decide) ?_
    refine a_icmp_ge 20 dX3_typeOf_8 (by decide) (fun c2 => ?_) (fun c2 => ?_)
    · replace h := ite_t c2 h
      refine a_iconst (v := -1) dX3_typeOf_20 (by decide) ?_
      exact a_iret dX3_typeOf_21 rfl (hR _ _ h)
    · replace h := ite_f c2 h
      refine a_aload_n dX3_typeOf_11 rfl rfl ?_
      obtain ⟨⟨ga3, gs4⟩, h⟩ := gd_t h
      obtain ⟨r5, e6, h⟩ := bnd_t h
      refine a_get (v := .ref r5) dX3_typeOf_12 fl_3_33 ga3 gs4 (gvR e6 rfl) ?_
      refine a_iload_n dX3_typeOf_15 rfl rfl ?_
      obtain ⟨⟨ga7, gn8, gs9, gi10⟩, h⟩ := gd_t h
      refine a_iaload dX3_typeOf_16 ga7 gs9 gi10 ?_
      refine a_goto 21 dX3_typeOf_17 (by decide) ?_
      exact a_iret dX3_typeOf_21 rfl (hR _ _ h)
noncomputable def b_X3_typeOf (n : Nat) (a0 : Nat) (x1 : Int32) (M : Mem) : Option (Int32 × Mem) := T_X3_typeOf_0 (fun v M => some (v, M)) none n a0 x1 M
set_option maxHeartbeats 4000000 in
set_option maxRecDepth 100000 in
theorem sb_X3_typeOf {X : Nat × (Nat → Int32)} {al : Bool} {n : Nat} {a0 : Nat} {x1 : Int32} {M : Mem} {v : Int32} {M1 : Mem} (h : b_X3_typeOf n a0 x1 M = some (v, M1)) : AE yX3_typeOf cX3_typeOf 2 (some .int) al n X [.ref a0, .int x1] M (some (.int v)) M1 := by
  refine AM.of false (by decide +kernel) (by intro h; cases h) (Nat.le_of_ble_eq_true rfl) ?_
  have h2 : T_X3_typeOf_0 (fun v2 M2 => some (v2, M2) = some (v, M1)) (none = some (v, M1)) n a0 x1 M := (n_X3_typeOf_0 (fun o => o = some (v, M1)) (fun v M => some (v, M)) none n a0 x1 M).mp h
  have h3 : ((none : Option (Int32 × Mem)) = some (v, M1)) = False := eq_false (by intro q; cases q)
  rw [h3] at h2
  exact w_X3_typeOf_0 (fun v2 M2 h => by cases h; exact ⟨rfl, rfl⟩) h2

noncomputable abbrev f_X3_typeOf := b_X3_typeOf
theorem s_X3_typeOf {X : Nat × (Nat → Int32)} {al : Bool} {n : Nat} {a0 : Nat} {x1 : Int32} {M : Mem} {v : Int32} {M1 : Mem} (h : f_X3_typeOf n a0 x1 M = some (v, M1)) : AE yX3_typeOf cX3_typeOf 2 (some .int) al n X [.ref a0, .int x1] M (some (.int v)) M1 := sb_X3_typeOf h
set_option maxHeartbeats 4000000 in
set_option maxRecDepth 100000 in
noncomputable def T_X1_kindOf_0.{u} {α : Sort u} (R : Int32 → Mem → α) (N : α) (n : Nat) (a0 : Nat) (x1 : Int32) (M : Mem) : α := if x1 < 0 then R (-1) M else gd (fO M a0 1) N (if (M.2.2.1 a0 7) ≤ x1 then R (-1) M else bnd (M.2.2.2.2 a0 0) N (fun r5 => gd (fA M r5 1 x1) N (R (M.2.2.1 r5 (x1.toNatClampNeg)) M)))
set_option maxHeartbeats 4000000 in
set_option maxRecDepth 100000 in
theorem n_X1_kindOf_0.{u, v} {α : Sort u} {β : Sort v} (h : α → β) (R : Int32 → Mem → α) (N : α) (n : Nat) (a0 : Nat) (x1 : Int32) (M : Mem) : h (T_X1_kindOf_0 R N n a0 x1 M) = T_X1_kindOf_0 (fun v M => h (R v M)) (h N) n a0 x1 M := by
  simp only [T_X1_kindOf_0, nat_ite h, nat_gd h, nat_bnd h, nat_bnd2 h]
set_option maxHeartbeats 4000000 in
set_option maxRecDepth 100000 in
theorem w_X1_kindOf_0 {X : Nat × (Nat → Int32)} {al : Bool} {n : Nat} {Q : Option Value → Mem → Prop} {R : Int32 → Mem → Prop} (hR : ∀ v M, R v M → Q (some (.int v)) M) {a0 : Nat} {x1 : Int32} {M : Mem} (h : T_X1_kindOf_0 R False n a0 x1 M) : AW X (RX1, cX1_kindOf, 2, (some .int), false, al, n) 0 0 0 [(0, .ref a0), (1, .int x1)] [] M Q := by
  unfold T_X1_kindOf_0 at h
  refine a_iload_n dX1_kindOf_0 rfl rfl ?_
  refine a_if_lt 21 dX1_kindOf_1 (by decide) (fun c1 => ?_) (fun c1 => ?_)
  · replace h := ite_t c1 h
    refine a_iconst (v := -1) dX1_kindOf_21 (by decide) ?_
    exact a_iret dX1_kindOf_22 rfl (hR _ _ h)
  · replace h := ite_f c1 h
    refine a_iload_n dX1_kindOf_4 rfl rfl ?_
    refine a_aload_n dX1_kindOf_5 rfl rfl ?_
    obtain ⟨⟨ga2, gs3⟩, h⟩ := gd_t h
    refine a_get (v := .int (M.2.2.1 a0 7)) dX1_kindOf_6 fl_1_38 ga2 gs3 rfl ?_
    refine a_icmp_ge 21 dX1_kindOf_9 (by decide) (fun c4 => ?_) (fun c4 => ?_)
    · replace h := ite_t c4 h
      refine a_iconst (v := -1) dX1_kindOf_21 (by decide) ?_
      exact a_iret dX1_kindOf_22 rfl (hR _ _ h)
    · replace h := ite_f c4 h
      refine a_aload_n dX1_kindOf_12 rfl rfl ?_
      obtain ⟨r5, e6, h⟩ := bnd_t h
      refine a_get (v := .ref r5) dX1_kindOf_13 fl_1_11 ga2 gs3 (gvR e6 rfl) ?_
      refine a_iload_n dX1_kindOf_16 rfl rfl ?_
      obtain ⟨⟨ga7, gn8, gs9, gi10⟩, h⟩ := gd_t h
      refine a_iaload dX1_kindOf_17 ga7 gs9 gi10 ?_
      refine a_goto 22 dX1_kindOf_18 (by decide) ?_
      exact a_iret dX1_kindOf_22 rfl (hR _ _ h)
noncomputable def b_X1_kindOf (n : Nat) (a0 : Nat) (x1 : Int32) (M : Mem) : Option (Int32 × Mem) := T_X1_kindOf_0 (fun v M => some (v, M)) none n a0 x1 M
set_option maxHeartbeats 4000000 in
set_option maxRecDepth 100000 in
theorem sb_X1_kindOf {X : Nat × (Nat → Int32)} {al : Bool} {n : Nat} {a0 : Nat} {x1 : Int32} {M : Mem} {v : Int32} {M1 : Mem} (h : b_X1_kindOf n a0 x1 M = some (v, M1)) : AE yX1_kindOf cX1_kindOf 2 (some .int) al n X [.ref a0, .int x1] M (some (.int v)) M1 := by
  refine AM.of false (by decide +kernel) (by intro h; cases h) (Nat.le_of_ble_eq_true rfl) ?_
  have h2 : T_X1_kindOf_0 (fun v2 M2 => some (v2, M2) = some (v, M1)) (none = some (v, M1)) n a0 x1 M := (n_X1_kindOf_0 (fun o => o = some (v, M1)) (fun v M => some (v, M)) none n a0 x1 M).mp h
  have h3 : ((none : Option (Int32 × Mem)) = some (v, M1)) = False := eq_false (by intro q; cases q)
  rw [h3] at h2
  exact w_X1_kindOf_0 (fun v2 M2 h => by cases h; exact ⟨rfl, rfl⟩) h2

noncomputable abbrev f_X1_kindOf := b_X1_kindOf
theorem s_X1_kindOf {X : Nat × (Nat → Int32)} {al : Bool} {n : Nat} {a0 : Nat} {x1 : Int32} {M : Mem} {v : Int32} {M1 : Mem} (h : f_X1_kindOf n a0 x1 M = some (v, M1)) : AE yX1_kindOf cX1_kindOf 2 (some .int) al n X [.ref a0, .int x1] M (some (.int v)) M1 := sb_X1_kindOf h
set_option maxHeartbeats 4000000 in
set_option maxRecDepth 100000 in
noncomputable def T_X1_leftOf_0.{u} {α : Sort u} (R : Int32 → Mem → α) (N : α) (n : Nat) (a0 : Nat) (x1 : Int32) (M : Mem) : α := if x1 < 0 then R (-1) M else gd (fO M a0 1) N (if (M.2.2.1 a0 7) ≤ x1 then R (-1) M else bnd (M.2.2.2.2 a0 1) N (fun r5 => gd (fA M r5 1 x1) N (R (M.2.2.1 r5 (x1.toNatClampNeg)) M)))
set_option maxHeartbeats 4000000 in
set_option maxRecDepth 100000 in
theorem n_X1_leftOf_0.{u, v} {α : Sort u} {β : Sort v} (h : α → β) (R : Int32 → Mem → α) (N : α) (n : Nat) (a0 : Nat) (x1 : Int32) (M : Mem) : h (T_X1_leftOf_0 R N n a0 x1 M) = T_X1_leftOf_0 (fun v M => h (R v M)) (h N) n a0 x1 M := by
  simp only [T_X1_leftOf_0, nat_ite h, nat_gd h, nat_bnd h, nat_bnd2 h]
set_option maxHeartbeats 4000000 in
set_option maxRecDepth 100000 in
theorem w_X1_leftOf_0 {X : Nat × (Nat → Int32)} {al : Bool} {n : Nat} {Q : Option Value → Mem → Prop} {R : Int32 → Mem → Prop} (hR : ∀ v M, R v M → Q (some (.int v)) M) {a0 : Nat} {x1 : Int32} {M : Mem} (h : T_X1_leftOf_0 R False n a0 x1 M) : AW X (RX1, cX1_leftOf, 2, (some .int), false, al, n) 0 0 0 [(0, .ref a0), (1, .int x1)] [] M Q := by
  unfold T_X1_leftOf_0 at h
  refine a_iload_n dX1_leftOf_0 rfl rfl ?_
  refine a_if_lt 21 dX1_leftOf_1 (by decide) (fun c1 => ?_) (fun c1 => ?_)
  · replace h := ite_t c1 h
    refine a_iconst (v := -1) dX1_leftOf_21 (by decide) ?_
    exact a_iret dX1_leftOf_22 rfl (hR _ _ h)
  · replace h := ite_f c1 h
    refine a_iload_n dX1_leftOf_4 rfl rfl ?_
    refine a_aload_n dX1_leftOf_5 rfl rfl ?_
    obtain ⟨⟨ga2, gs3⟩, h⟩ := gd_t h
    refine a_get (v := .int (M.2.2.1 a0 7)) dX1_leftOf_6 fl_1_38 ga2 gs3 rfl ?_
    refine a_icmp_ge 21 dX1_leftOf_9 (by decide) (fun c4 => ?_) (fun c4 => ?_)
    · replace h := ite_t c4 h
      refine a_iconst (v := -1) dX1_leftOf_21 (by decide) ?_
      exact a_iret dX1_leftOf_22 rfl (hR _ _ h)
    · replace h := ite_f c4 h
      refine a_aload_n dX1_leftOf_12 rfl rfl ?_
      obtain ⟨r5, e6, h⟩ := bnd_t h
      refine a_get (v := .ref r5) dX1_leftOf_13 fl_1_15 ga2 gs3 (gvR e6 rfl) ?_
      refine a_iload_n dX1_leftOf_16 rfl rfl ?_
      obtain ⟨⟨ga7, gn8, gs9, gi10⟩, h⟩ := gd_t h
      refine a_iaload dX1_leftOf_17 ga7 gs9 gi10 ?_
      refine a_goto 22 dX1_leftOf_18 (by decide) ?_
      exact a_iret dX1_leftOf_22 rfl (hR _ _ h)
noncomputable def b_X1_leftOf (n : Nat) (a0 : Nat) (x1 : Int32) (M : Mem) : Option (Int32 × Mem) := T_X1_leftOf_0 (fun v M => some (v, M)) none n a0 x1 M
set_option maxHeartbeats 4000000 in
set_option maxRecDepth 100000 in
theorem sb_X1_leftOf {X : Nat × (Nat → Int32)} {al : Bool} {n : Nat} {a0 : Nat} {x1 : Int32} {M : Mem} {v : Int32} {M1 : Mem} (h : b_X1_leftOf n a0 x1 M = some (v, M1)) : AE yX1_leftOf cX1_leftOf 2 (some .int) al n X [.ref a0, .int x1] M (some (.int v)) M1 := by
  refine AM.of false (by decide +kernel) (by intro h; cases h) (Nat.le_of_ble_eq_true rfl) ?_
  have h2 : T_X1_leftOf_0 (fun v2 M2 => some (v2, M2) = some (v, M1)) (none = some (v, M1)) n a0 x1 M := (n_X1_leftOf_0 (fun o => o = some (v, M1)) (fun v M => some (v, M)) none n a0 x1 M).mp h
  have h3 : ((none : Option (Int32 × Mem)) = some (v, M1)) = False := eq_false (by intro q; cases q)
  rw [h3] at h2
  exact w_X1_leftOf_0 (fun v2 M2 h => by cases h; exact ⟨rfl, rfl⟩) h2

noncomputable abbrev f_X1_leftOf := b_X1_leftOf
theorem s_X1_leftOf {X : Nat × (Nat → Int32)} {al : Bool} {n : Nat} {a0 : Nat} {x1 : Int32} {M : Mem} {v : Int32} {M1 : Mem} (h : f_X1_leftOf n a0 x1 M = some (v, M1)) : AE yX1_leftOf cX1_leftOf 2 (some .int) al n X [.ref a0, .int x1] M (some (.int v)) M1 := sb_X1_leftOf h
def ix_X3_unfitWithin (c : Nat) : List Nat := if c = 0 then [0, 1] else if c = 111 then [0, 2, 4] else []
def PW_X3_unfitWithin (X : Nat × (Nat → Int32)) (al : Bool) (n : Nat) (Q : Option Value → Mem → Prop) (c : Nat) (l : List Value) (M : Mem) : Prop := AW X (RX3, cX3_unfitWithin, 6, (some .int), false, al, n) 0 0 c (List.zip (ix_X3_unfitWithin c) l) (l.drop (ix_X3_unfitWithin c).length) M Q
set_option maxHeartbeats 4000000 in
set_option maxRecDepth 100000 in
noncomputable def T_X3_unfitWithin_0.{u} {α : Sort u} (J : Nat → List Value → Mem → α) (R : Int32 → Mem → α) (N : α) (n : Nat) (a0 : Nat) (x1 : Int32) (M : Mem) : α := gd (fO M a0 3) N (bnd2 (cal n (fun n => f_X3_endOf n a0 (x1 + 1) M)) N (fun v3 M4 => gd (fO M4 a0 3) N (bnd2 (cal n (fun n => f_X3_typeOf n a0 (x1 + 1) M4)) N (fun v10 M11 => gd (fO M11 a0 3) N (bnd (M11.2.2.2.2 a0 2) N (fun r17 => gd (fO M11 r17 9) N (bnd2 (cal n (fun n => f_X9_opAt n r17 x1 M11)) N (fun v21 M22 => if v21 = 3 then gd (fO M22 a0 3) N (bnd (M22.2.2.2.2 a0 0) N (fun r29 => gd (fO M22 r29 1) N (bnd2 (cal n (fun n => f_X1_kindOf n r29 v10 M22)) N (fun v33 M34 => if v33 = 9 then gd (fO M34 a0 3) N (bnd2 (cal n (fun n => f_X3_typeOf n a0 v3 M34)) N (fun v41 M42 => gd (fO M42 a0 3) N (bnd (M42.2.2.2.2 a0 0) N (fun r48 => gd (fO M42 r48 1) N (bnd2 (cal n (fun n => f_X1_leftOf n r48 v10 M42)) N (fun v52 M53 => if v41 = v52 then R (-1) M53 else R v3 M53)))))) else R (x1 + 1) M34)))) else if v21 = 4 then R (-1) M22 else if v21 = 5 then J 111 [.ref a0, .int (x1 + 1), .int v10] M22 else if v21 = 6 then J 111 [.ref a0, .int (x1 + 1), .int v10] M22 else if v21 = 7 then R (-1) M22 else if v21 = 8 then R (-1) M22 else if v21 = 9 then gd (fO M22 a0 3) N (bnd2 (cal n (fun n => f_X3_endOf n a0 v3 M22)) N (fun v66 M67 => gd (fO M67 a0 3) N (bnd2 (cal n (fun n => f_X3_typeOf n a0 v66 M67)) N (fun v73 M74 => gd (fO M74 a0 3) N (bnd2 (cal n (fun n => f_X3_typeOf n a0 v3 M74)) N (fun v80 M81 => if v73 = v80 then R (-1) M81 else R v66 M81)))))) else if v21 = 10 then if v10 = 8 then R (-1) M22 else R (x1 + 1) M22 else R (-1) M22))))))))
set_option maxHeartbeats 4000000 in
set_option maxRecDepth 100000 in
theorem n_X3_unfitWithin_0.{u, v} {α : Sort u} {β : Sort v} (h : α → β) (J : Nat → List Value → Mem → α) (R : Int32 → Mem → α) (N : α) (n : Nat) (a0 : Nat) (x1 : Int32) (M : Mem) : h (T_X3_unfitWithin_0 J R N n a0 x1 M) = T_X3_unfitWithin_0 (fun c l M => h (J c l M)) (fun v M => h (R v M)) (h N) n a0 x1 M := by
  simp only [T_X3_unfitWithin_0, nat_ite h, nat_gd h, nat_bnd h, nat_bnd2 h]
set_option maxHeartbeats 4000000 in
set_option maxRecDepth 100000 in
theorem w_X3_unfitWithin_0 {X : Nat × (Nat → Int32)} {al : Bool} {n : Nat} {Q : Option Value → Mem → Prop} {J : Nat → List Value → Mem → Prop} (hJ : ∀ c l M, J c l M → PW_X3_unfitWithin X al n Q c l M) {R : Int32 → Mem → Prop} (hR : ∀ v M, R v M → Q (some (.int v)) M) {a0 : Nat} {x1 : Int32} {M : Mem} (h : T_X3_unfitWithin_0 J R False n a0 x1 M) : AW X (RX3, cX3_unfitWithin, 6, (some .int), false, al, n) 0 0 0 [(0, .ref a0), (1, .int x1)] [] M Q := by
  unfold T_X3_unfitWithin_0 at h
  refine a_iload_n dX3_unfitWithin_0 rfl rfl ?_
  refine a_iconst (v := 1) dX3_unfitWithin_1 (by decide) ?_
  refine a_iadd dX3_unfitWithin_2 ?_
  refine a_istore_n dX3_unfitWithin_3 rfl (Nat.le_of_ble_eq_true rfl) (lv2 := [(2, .int (x1 + 1)), (0, .ref a0), (1, .int x1)]) rfl ?_
  refine a_aload_n dX3_unfitWithin_4 rfl rfl ?_
  refine a_iload_n dX3_unfitWithin_5 rfl rfl ?_
  obtain ⟨⟨ga1, gs2⟩, h⟩ := gd_t h
  obtain ⟨v3, M4, e5, h⟩ := bnd2_t h
  obtain ⟨n6, en7, e5⟩ := cal_t e5
  refine e_callV (As := [.int (x1 + 1)]) (st := []) (a := a0) (ci := 3) false dX3_unfitWithin_6 mw_X3_endOf (Or.inl ⟨rfl, ml_X3_65⟩) im_X3_endOf se_X3_endOf (by decide) ga1 gs2 rfl (Nat.le_of_ble_eq_true rfl) en7 (s_X3_endOf e5) ?_
  refine a_istore_n dX3_unfitWithin_9 rfl (Nat.le_of_ble_eq_true rfl) (lv2 := [(3, .int v3), (2, .int (x1 + 1)), (0, .ref a0), (1, .int x1)]) rfl ?_
  refine a_aload_n dX3_unfitWithin_10 rfl rfl ?_
  refine a_iload_n dX3_unfitWithin_11 rfl rfl ?_
  obtain ⟨⟨ga8, gs9⟩, h⟩ := gd_t h
  obtain ⟨v10, M11, e12, h⟩ := bnd2_t h
  obtain ⟨n13, en14, e12⟩ := cal_t e12
  refine e_callV (As := [.int (x1 + 1)]) (st := []) (a := a0) (ci := 3) false dX3_unfitWithin_12 mw_X3_typeOf (Or.inl ⟨rfl, ml_X3_113⟩) im_X3_typeOf se_X3_typeOf (by decide) ga8 gs9 rfl (Nat.le_of_ble_eq_true rfl) en14 (s_X3_typeOf e12) ?_
  refine a_istore dX3_unfitWithin_15 (Nat.le_of_ble_eq_true rfl) (lv2 := [(4, .int v10), (3, .int v3), (2, .int (x1 + 1)), (0, .ref a0), (1, .int x1)]) rfl ?_
  refine a_aload_n dX3_unfitWithin_17 rfl rfl ?_
  obtain ⟨⟨ga15, gs16⟩, h⟩ := gd_t h
  obtain ⟨r17, e18, h⟩ := bnd_t h
  refine a_get (v := .ref r17) dX3_unfitWithin_18 fl_3_50 ga15 gs16 (gvR e18 rfl) ?_
  refine a_iload_n dX3_unfitWithin_21 rfl rfl ?_
  obtain ⟨⟨ga19, gs20⟩, h⟩ := gd_t h
  obtain ⟨v21, M22, e23, h⟩ := bnd2_t h
  obtain ⟨n24, en25, e23⟩ := cal_t e23
  refine e_callV (As := [.int x1]) (st := []) (a := r17) (ci := 9) false dX3_unfitWithin_22 mw_X9_opAt (Or.inl ⟨rfl, ml_X3_58⟩) im_X9_opAt se_X9_opAt (by decide) ga19 gs20 rfl (Nat.le_of_ble_eq_true rfl) en25 (s_X9_opAt e23) ?_
  by_cases c26 : v21 = 3
  · replace h := ite_t c26 h
    refine a_tableIn (off := 47) 72 dX3_unfitWithin_25 (by rw [c26]; decide) (by rw [c26]; decide) (by rw [c26]; rfl) (by decide) ?_
    refine a_aload_n dX3_unfitWithin_72 rfl rfl ?_
    obtain ⟨⟨ga27, gs28⟩, h⟩ := gd_t h
    obtain ⟨r29, e30, h⟩ := bnd_t h
    refine a_get (v := .ref r29) dX3_unfitWithin_73 fl_3_39 ga27 gs28 (gvR e30 rfl) ?_
    refine a_iload dX3_unfitWithin_76 rfl ?_
    obtain ⟨⟨ga31, gs32⟩, h⟩ := gd_t h
    obtain ⟨v33, M34, e35, h⟩ := bnd2_t h
    obtain ⟨n36, en37, e35⟩ := cal_t e35
    refine e_callV (As := [.int v10]) (st := []) (a := r29) (ci := 1) false dX3_unfitWithin_78 mw_X1_kindOf (Or.inl ⟨rfl, ml_X3_133⟩) im_X1_kindOf se_X1_kindOf (by decide) ga31 gs32 rfl (Nat.le_of_ble_eq_true rfl) en37 (s_X1_kindOf e35) ?_
    refine a_bipush (v := 9) dX3_unfitWithin_81 (by decide) ?_
    refine a_icmp_eq 88 dX3_unfitWithin_83 (by decide) (fun c38 => ?_) (fun c38 => ?_)
    · replace h := ite_t c38 h
      refine a_aload_n dX3_unfitWithin_88 rfl rfl ?_
      refine a_iload_n dX3_unfitWithin_89 rfl rfl ?_
      obtain ⟨⟨ga39, gs40⟩, h⟩ := gd_t h
      obtain ⟨v41, M42, e43, h⟩ := bnd2_t h
      obtain ⟨n44, en45, e43⟩ := cal_t e43
      refine e_callV (As := [.int v3]) (st := []) (a := a0) (ci := 3) false dX3_unfitWithin_90 mw_X3_typeOf (Or.inl ⟨rfl, ml_X3_113⟩) im_X3_typeOf se_X3_typeOf (by decide) ga39 gs40 rfl (Nat.le_of_ble_eq_true rfl) en45 (s_X3_typeOf e43) ?_
      refine a_aload_n dX3_unfitWithin_93 rfl rfl ?_
      obtain ⟨⟨ga46, gs47⟩, h⟩ := gd_t h
      obtain ⟨r48, e49, h⟩ := bnd_t h
      refine a_get (v := .ref r48) dX3_unfitWithin_94 fl_3_39 ga46 gs47 (gvR e49 rfl) ?_
      refine a_iload dX3_unfitWithin_97 rfl ?_
      obtain ⟨⟨ga50, gs51⟩, h⟩ := gd_t h
      obtain ⟨v52, M53, e54, h⟩ := bnd2_t h
      obtain ⟨n55, en56, e54⟩ := cal_t e54
      refine e_callV (As := [.int v10]) (st := [.int v41]) (a := r48) (ci := 1) false dX3_unfitWithin_99 mw_X1_leftOf (Or.inl ⟨rfl, ml_X3_116⟩) im_X1_leftOf se_X1_leftOf (by decide) ga50 gs51 rfl (Nat.le_of_ble_eq_true rfl) en56 (s_X1_leftOf e54) ?_
      refine a_icmp_ne 109 dX3_unfitWithin_102 (by decide) (fun c57 => ?_) (fun c57 => ?_)
      · replace h := ite_f c57 h
        refine a_iload_n dX3_unfitWithin_109 rfl rfl ?_
        exact a_iret dX3_unfitWithin_110 rfl (hR _ _ h)
      · replace h := ite_t c57 h
        refine a_iconst (v := -1) dX3_unfitWithin_105 (by decide) ?_
        refine a_goto 110 dX3_unfitWithin_106 (by decide) ?_
        exact a_iret dX3_unfitWithin_110 rfl (hR _ _ h)
    · replace h := ite_f c38 h
      refine a_iload_n dX3_unfitWithin_86 rfl rfl ?_
      exact a_iret dX3_unfitWithin_87 rfl (hR _ _ h)
  replace h := ite_f c26 h
  by_cases c58 : v21 = 4
  · replace h := ite_t c58 h
    refine a_tableIn (off := 147) 172 dX3_unfitWithin_25 (by rw [c58]; decide) (by rw [c58]; decide) (by rw [c58]; rfl) (by decide) ?_
    refine a_iconst (v := -1) dX3_unfitWithin_172 (by decide) ?_
    exact a_iret dX3_unfitWithin_173 rfl (hR _ _ h)
  replace h := ite_f c58 h
  by_cases c59 : v21 = 5
  · replace h := ite_t c59 h
    refine a_tableIn (off := 86) 111 dX3_unfitWithin_25 (by rw [c59]; decide) (by rw [c59]; decide) (by rw [c59]; rfl) (by decide) ?_
    exact a_lv (lv2 := [(0, .ref a0), (2, .int (x1 + 1)), (4, .int v10)]) (fa_cons rfl (fa_cons rfl (fa_cons rfl fa_nil))) (hJ _ _ _ h)
  replace h := ite_f c59 h
  by_cases c60 : v21 = 6
  · replace h := ite_t c60 h
    refine a_tableIn (off := 86) 111 dX3_unfitWithin_25 (by rw [c60]; decide) (by rw [c60]; decide) (by rw [c60]; rfl) (by decide) ?_
    exact a_lv (lv2 := [(0, .ref a0), (2, .int (x1 + 1)), (4, .int v10)]) (fa_cons rfl (fa_cons rfl (fa_cons rfl fa_nil))) (hJ _ _ _ h)
  replace h := ite_f c60 h
  by_cases c61 : v21 = 7
  · replace h := ite_t c61 h
    refine a_tableIn (off := 147) 172 dX3_unfitWithin_25 (by rw [c61]; decide) (by rw [c61]; decide) (by rw [c61]; rfl) (by decide) ?_
    refine a_iconst (v := -1) dX3_unfitWithin_172 (by decide) ?_
    exact a_iret dX3_unfitWithin_173 rfl (hR _ _ h)
  replace h := ite_f c61 h
  by_cases c62 : v21 = 8
  · replace h := ite_t c62 h
    refine a_tableIn (off := 147) 172 dX3_unfitWithin_25 (by rw [c62]; decide) (by rw [c62]; decide) (by rw [c62]; rfl) (by decide) ?_
    refine a_iconst (v := -1) dX3_unfitWithin_172 (by decide) ?_
    exact a_iret dX3_unfitWithin_173 rfl (hR _ _ h)
  replace h := ite_f c62 h
  by_cases c63 : v21 = 9
  · replace h := ite_t c63 h
    refine a_tableIn (off := 106) 131 dX3_unfitWithin_25 (by rw [c63]; decide) (by rw [c63]; decide) (by rw [c63]; rfl) (by decide) ?_
    refine a_aload_n dX3_unfitWithin_131 rfl rfl ?_
    refine a_iload_n dX3_unfitWithin_132 rfl rfl ?_
    obtain ⟨⟨ga64, gs65⟩, h⟩ := gd_t h
    obtain ⟨v66, M67, e68, h⟩ := bnd2_t h
    obtain ⟨n69, en70, e68⟩ := cal_t e68
    refine e_callV (As := [.int v3]) (st := []) (a := a0) (ci := 3) false dX3_unfitWithin_133 mw_X3_endOf (Or.inl ⟨rfl, ml_X3_65⟩) im_X3_endOf se_X3_endOf (by decide) ga64 gs65 rfl (Nat.le_of_ble_eq_true rfl) en70 (s_X3_endOf e68) ?_
    refine a_istore dX3_unfitWithin_136 (Nat.le_of_ble_eq_true rfl) (lv2 := [(5, .int v66), (4, .int v10), (3, .int v3), (2, .int (x1 + 1)), (0, .ref a0), (1, .int x1)]) rfl ?_
    refine a_aload_n dX3_unfitWithin_138 rfl rfl ?_
    refine a_iload dX3_unfitWithin_139 rfl ?_
    obtain ⟨⟨ga71, gs72⟩, h⟩ := gd_t h
    obtain ⟨v73, M74, e75, h⟩ := bnd2_t h
    obtain ⟨n76, en77, e75⟩ := cal_t e75
    refine e_callV (As := [.int v66]) (st := []) (a := a0) (ci := 3) false dX3_unfitWithin_141 mw_X3_typeOf (Or.inl ⟨rfl, ml_X3_113⟩) im_X3_typeOf se_X3_typeOf (by decide) ga71 gs72 rfl (Nat.le_of_ble_eq_true rfl) en77 (s_X3_typeOf e75) ?_
    refine a_aload_n dX3_unfitWithin_144 rfl rfl ?_
    refine a_iload_n dX3_unfitWithin_145 rfl rfl ?_
    obtain ⟨⟨ga78, gs79⟩, h⟩ := gd_t h
    obtain ⟨v80, M81, e82, h⟩ := bnd2_t h
    obtain ⟨n83, en84, e82⟩ := cal_t e82
    refine e_callV (As := [.int v3]) (st := [.int v73]) (a := a0) (ci := 3) false dX3_unfitWithin_146 mw_X3_typeOf (Or.inl ⟨rfl, ml_X3_113⟩) im_X3_typeOf se_X3_typeOf (by decide) ga78 gs79 rfl (Nat.le_of_ble_eq_true rfl) en84 (s_X3_typeOf e82) ?_
    refine a_icmp_ne 156 dX3_unfitWithin_149 (by decide) (fun c85 => ?_) (fun c85 => ?_)
    · replace h := ite_f c85 h
      refine a_iload dX3_unfitWithin_156 rfl ?_
      exact a_iret dX3_unfitWithin_158 rfl (hR _ _ h)
    · replace h := ite_t c85 h
      refine a_iconst (v := -1) dX3_unfitWithin_152 (by decide) ?_
      refine a_goto 158 dX3_unfitWithin_153 (by decide) ?_
      exact a_iret dX3_unfitWithin_158 rfl (hR _ _ h)
  replace h := ite_f c63 h
  by_cases c86 : v21 = 10
  · replace h := ite_t c86 h
    refine a_tableIn (off := 134) 159 dX3_unfitWithin_25 (by rw [c86]; decide) (by rw [c86]; decide) (by rw [c86]; rfl) (by decide) ?_
    refine a_iload dX3_unfitWithin_159 rfl ?_
    refine a_bipush (v := 8) dX3_unfitWithin_161 (by decide) ?_
    refine a_icmp_ne 170 dX3_unfitWithin_163 (by decide) (fun c87 => ?_) (fun c87 => ?_)
    · replace h := ite_f c87 h
      refine a_iload_n dX3_unfitWithin_170 rfl rfl ?_
      exact a_iret dX3_unfitWithin_171 rfl (hR _ _ h)
    · replace h := ite_t c87 h
      refine a_iconst (v := -1) dX3_unfitWithin_166 (by decide) ?_
      refine a_goto 171 dX3_unfitWithin_167 (by decide) ?_
      exact a_iret dX3_unfitWithin_171 rfl (hR _ _ h)
  replace h := ite_f c86 h
  refine a_tableOut 172 dX3_unfitWithin_25 (by have q0 := ne_toInt (z := 3) c26 rfl; have q1 := ne_toInt (z := 4) c58 rfl; have q2 := ne_toInt (z := 5) c59 rfl; have q3 := ne_toInt (z := 6) c60 rfl; have q4 := ne_toInt (z := 7) c61 rfl; have q5 := ne_toInt (z := 8) c62 rfl; have q6 := ne_toInt (z := 9) c63 rfl; have q7 := ne_toInt (z := 10) c86 rfl; omega) (by decide) ?_
  refine a_iconst (v := -1) dX3_unfitWithin_172 (by decide) ?_
  exact a_iret dX3_unfitWithin_173 rfl (hR _ _ h)
set_option maxHeartbeats 4000000 in
set_option maxRecDepth 100000 in
noncomputable def T_X3_unfitWithin_111.{u} {α : Sort u} (J : Nat → List Value → Mem → α) (R : Int32 → Mem → α) (N : α) (n : Nat) (a0 : Nat) (x2 : Int32) (x4 : Int32) (M : Mem) : α := gd (fO M a0 3) N (bnd (M.2.2.2.2 a0 0) N (fun r3 => gd (fO M r3 1) N (bnd2 (cal n (fun n => f_X1_kindOf n r3 x4 M)) N (fun v7 M8 => if v7 = 10 then R (-1) M8 else R x2 M8))))
set_option maxHeartbeats 4000000 in
set_option maxRecDepth 100000 in
theorem n_X3_unfitWithin_111.{u, v} {α : Sort u} {β : Sort v} (h : α → β) (J : Nat → List Value → Mem → α) (R : Int32 → Mem → α) (N : α) (n : Nat) (a0 : Nat) (x2 : Int32) (x4 : Int32) (M : Mem) : h (T_X3_unfitWithin_111 J R N n a0 x2 x4 M) = T_X3_unfitWithin_111 (fun c l M => h (J c l M)) (fun v M => h (R v M)) (h N) n a0 x2 x4 M := by
  simp only [T_X3_unfitWithin_111, nat_ite h, nat_gd h, nat_bnd h, nat_bnd2 h]
set_option maxHeartbeats 4000000 in
set_option maxRecDepth 100000 in
theorem w_X3_unfitWithin_111 {X : Nat × (Nat → Int32)} {al : Bool} {n : Nat} {Q : Option Value → Mem → Prop} {J : Nat → List Value → Mem → Prop} (hJ : ∀ c l M, J c l M → PW_X3_unfitWithin X al n Q c l M) {R : Int32 → Mem → Prop} (hR : ∀ v M, R v M → Q (some (.int v)) M) {a0 : Nat} {x2 : Int32} {x4 : Int32} {M : Mem} (h : T_X3_unfitWithin_111 J R False n a0 x2 x4 M) : AW X (RX3, cX3_unfitWithin, 6, (some .int), false, al, n) 0 0 111 [(0, .ref a0), (2, .int x2), (4, .int x4)] [] M Q := by
  unfold T_X3_unfitWithin_111 at h
  refine a_aload_n dX3_unfitWithin_111 rfl rfl ?_
  obtain ⟨⟨ga1, gs2⟩, h⟩ := gd_t h
  obtain ⟨r3, e4, h⟩ := bnd_t h
  refine a_get (v := .ref r3) dX3_unfitWithin_112 fl_3_39 ga1 gs2 (gvR e4 rfl) ?_
  refine a_iload dX3_unfitWithin_115 rfl ?_
  obtain ⟨⟨ga5, gs6⟩, h⟩ := gd_t h
  obtain ⟨v7, M8, e9, h⟩ := bnd2_t h
  obtain ⟨n10, en11, e9⟩ := cal_t e9
  refine e_callV (As := [.int x4]) (st := []) (a := r3) (ci := 1) false dX3_unfitWithin_117 mw_X1_kindOf (Or.inl ⟨rfl, ml_X3_133⟩) im_X1_kindOf se_X1_kindOf (by decide) ga5 gs6 rfl (Nat.le_of_ble_eq_true rfl) en11 (s_X1_kindOf e9) ?_
  refine a_bipush (v := 10) dX3_unfitWithin_120 (by decide) ?_
  refine a_icmp_ne 129 dX3_unfitWithin_122 (by decide) (fun c12 => ?_) (fun c12 => ?_)
  · replace h := ite_f c12 h
    refine a_iload_n dX3_unfitWithin_129 rfl rfl ?_
    exact a_iret dX3_unfitWithin_130 rfl (hR _ _ h)
  · replace h := ite_t c12 h
    refine a_iconst (v := -1) dX3_unfitWithin_125 (by decide) ?_
    refine a_goto 130 dX3_unfitWithin_126 (by decide) ?_
    exact a_iret dX3_unfitWithin_130 rfl (hR _ _ h)
set_option maxHeartbeats 4000000 in
set_option maxRecDepth 100000 in
noncomputable def st_X3_unfitWithin (n : Nat) (s : Sg) : Option (Sg ⊕ (Int32 × Mem)) := if s.1 = 0 then vR s.2.1 none (fun a0 t => vI t none (fun x1 t => vE t none (T_X3_unfitWithin_0 (fun c l M => some (.inl (c, l, M))) (fun v M => some (.inr (v, M))) none n a0 x1 s.2.2))) else if s.1 = 111 then vR s.2.1 none (fun a0 t => vI t none (fun x2 t => vI t none (fun x4 t => vE t none (T_X3_unfitWithin_111 (fun c l M => some (.inl (c, l, M))) (fun v M => some (.inr (v, M))) none n a0 x2 x4 s.2.2)))) else none
noncomputable abbrev g_X3_unfitWithin_0 (n : Nat) (a0 : Nat) (x1 : Int32) (M : Mem) : Option (Int32 × Mem) := lp (st_X3_unfitWithin n) (0, [.ref a0, .int x1], M)
set_option maxHeartbeats 4000000 in
set_option maxRecDepth 100000 in
theorem ge_X3_unfitWithin_0 (n : Nat) (a0 : Nat) (x1 : Int32) (M : Mem) : g_X3_unfitWithin_0 n a0 x1 M = T_X3_unfitWithin_0 (fun c l M => lp (st_X3_unfitWithin n) (c, l, M)) (fun v M => some (v, M)) none n a0 x1 M := (lp_eq _ _).trans (n_X3_unfitWithin_0 (lpK (st_X3_unfitWithin n)) (fun c l M => some (.inl (c, l, M))) (fun v M => some (.inr (v, M))) none n a0 x1 M)
noncomputable abbrev g_X3_unfitWithin_111 (n : Nat) (a0 : Nat) (x2 : Int32) (x4 : Int32) (M : Mem) : Option (Int32 × Mem) := lp (st_X3_unfitWithin n) (111, [.ref a0, .int x2, .int x4], M)
set_option maxHeartbeats 4000000 in
set_option maxRecDepth 100000 in
theorem ge_X3_unfitWithin_111 (n : Nat) (a0 : Nat) (x2 : Int32) (x4 : Int32) (M : Mem) : g_X3_unfitWithin_111 n a0 x2 x4 M = T_X3_unfitWithin_111 (fun c l M => lp (st_X3_unfitWithin n) (c, l, M)) (fun v M => some (v, M)) none n a0 x2 x4 M := (lp_eq _ _).trans (n_X3_unfitWithin_111 (lpK (st_X3_unfitWithin n)) (fun c l M => some (.inl (c, l, M))) (fun v M => some (.inr (v, M))) none n a0 x2 x4 M)
noncomputable def b_X3_unfitWithin (n : Nat) (a0 : Nat) (x1 : Int32) (M : Mem) : Option (Int32 × Mem) := g_X3_unfitWithin_0 n a0 x1 M
set_option maxHeartbeats 4000000 in
set_option maxRecDepth 100000 in
theorem sb_X3_unfitWithin {X : Nat × (Nat → Int32)} {al : Bool} {n : Nat} {a0 : Nat} {x1 : Int32} {M : Mem} {v : Int32} {M1 : Mem} (h : b_X3_unfitWithin n a0 x1 M = some (v, M1)) : AE yX3_unfitWithin cX3_unfitWithin 6 (some .int) al n X [.ref a0, .int x1] M (some (.int v)) M1 := by
  refine AM.of false (by decide +kernel) (by intro h; cases h) (Nat.le_of_ble_eq_true rfl) ?_
  refine lp_snd (P := fun s r => PW_X3_unfitWithin X al n (fun v M2 => v = (some (.int r.1)) ∧ M2 = r.2) s.1 s.2.1 s.2.2) ?_ h
  clear h
  rintro ⟨c, l, M⟩ r h
  unfold st_X3_unfitWithin at h
  rcases ite_p h with ⟨e, h⟩ | ⟨e, h⟩
  · replace e : c = 0 := e
    subst e
    obtain ⟨a0, tt0, e, h⟩ := vR_p id h
    replace e : l = _ := e
    subst e
    obtain ⟨x1, tt1, e, h⟩ := vI_p id h
    replace e : tt0 = _ := e
    subst e
    obtain ⟨e, h⟩ := vE_p id h
    replace e : tt1 = [] := e
    subst e
    exact w_X3_unfitWithin_0 (J := fun c l M => PW_X3_unfitWithin X al n (fun v M2 => v = (some (.int r.1)) ∧ M2 = r.2) c l M) (R := fun v M => (v, M) = r) (fun _ _ _ h => h) (fun v M h => by cases h; exact ⟨rfl, rfl⟩) ((n_X3_unfitWithin_0 (lpP (fun (s : Sg) (r : Int32 × Mem) => PW_X3_unfitWithin X al n (fun v M2 => v = (some (.int r.1)) ∧ M2 = r.2) s.1 s.2.1 s.2.2) r) (fun c l M => some (.inl (c, l, M))) (fun v M => some (.inr (v, M))) none n a0 x1 M).mp h)
  rcases ite_p h with ⟨e, h⟩ | ⟨e, h⟩
  · replace e : c = 111 := e
    subst e
    obtain ⟨a0, tt0, e, h⟩ := vR_p id h
    replace e : l = _ := e
    subst e
    obtain ⟨x2, tt1, e, h⟩ := vI_p id h
    replace e : tt0 = _ := e
    subst e
    obtain ⟨x4, tt2, e, h⟩ := vI_p id h
    replace e : tt1 = _ := e
    subst e
    obtain ⟨e, h⟩ := vE_p id h
    replace e : tt2 = [] := e
    subst e
    exact w_X3_unfitWithin_111 (J := fun c l M => PW_X3_unfitWithin X al n (fun v M2 => v = (some (.int r.1)) ∧ M2 = r.2) c l M) (R := fun v M => (v, M) = r) (fun _ _ _ h => h) (fun v M h => by cases h; exact ⟨rfl, rfl⟩) ((n_X3_unfitWithin_111 (lpP (fun (s : Sg) (r : Int32 × Mem) => PW_X3_unfitWithin X al n (fun v M2 => v = (some (.int r.1)) ∧ M2 = r.2) s.1 s.2.1 s.2.2) r) (fun c l M => some (.inl (c, l, M))) (fun v M => some (.inr (v, M))) none n a0 x2 x4 M).mp h)
  · exact h.elim

noncomputable abbrev f_X3_unfitWithin := b_X3_unfitWithin
theorem s_X3_unfitWithin {X : Nat × (Nat → Int32)} {al : Bool} {n : Nat} {a0 : Nat} {x1 : Int32} {M : Mem} {v : Int32} {M1 : Mem} (h : f_X3_unfitWithin n a0 x1 M = some (v, M1)) : AE yX3_unfitWithin cX3_unfitWithin 6 (some .int) al n X [.ref a0, .int x1] M (some (.int v)) M1 := sb_X3_unfitWithin h
