/-! METHODS AS FUNCTIONS, written by wip/gen/shallow.py -/
def ix_X6_buildFormula (c : Nat) : List Nat := if c = 0 then [0, 1] else if c = 9 then [0, 2, 3, 4] else if c = 100 then [0, 2, 3, 4] else []
def PW_X6_buildFormula (X : Nat × (Nat → Int32)) (al : Bool) (n : Nat) (Q : Option Value → Mem → Prop) (c : Nat) (l : List Value) (M : Mem) : Prop := AW X (RX6, cX6_buildFormula, 5, (some .int), false, al, n) 0 0 c (List.zip (ix_X6_buildFormula c) l) (l.drop (ix_X6_buildFormula c).length) M Q
set_option maxHeartbeats 4000000 in
set_option maxRecDepth 100000 in
noncomputable def T_X6_buildFormula_0.{u} {α : Sort u} (J : Nat → List Value → Mem → α) (R : Int32 → Mem → α) (N : α) (n : Nat) (a0 : Nat) (x1 : Int32) (M : Mem) : α := J 9 [.ref a0, .int (-1), .int x1, .int (x1 - 1)] M
set_option maxHeartbeats 4000000 in
set_option maxRecDepth 100000 in
theorem n_X6_buildFormula_0.{u, v} {α : Sort u} {β : Sort v} (h : α → β) (J : Nat → List Value → Mem → α) (R : Int32 → Mem → α) (N : α) (n : Nat) (a0 : Nat) (x1 : Int32) (M : Mem) : h (T_X6_buildFormula_0 J R N n a0 x1 M) = T_X6_buildFormula_0 (fun c l M => h (J c l M)) (fun v M => h (R v M)) (h N) n a0 x1 M := by
  simp only [T_X6_buildFormula_0, nat_ite h, nat_gd h, nat_bnd h, nat_bnd2 h]
set_option maxHeartbeats 4000000 in
set_option maxRecDepth 100000 in
theorem w_X6_buildFormula_0 {X : Nat × (Nat → Int32)} {al : Bool} {n : Nat} {Q : Option Value → Mem → Prop} {J : Nat → List Value → Mem → Prop} (hJ : ∀ c l M, J c l M → PW_X6_buildFormula X al n Q c l M) {R : Int32 → Mem → Prop} (hR : ∀ v M, R v M → Q (some (.int v)) M) {a0 : Nat} {x1 : Int32} {M : Mem} (h : T_X6_buildFormula_0 J R False n a0 x1 M) : AW X (RX6, cX6_buildFormula, 5, (some .int), false, al, n) 0 0 0 [(0, .ref a0), (1, .int x1)] [] M Q := by
  unfold T_X6_buildFormula_0 at h
  refine a_iconst (v := -1) dX6_buildFormula_0 (by decide) ?_
  refine a_istore_n dX6_buildFormula_1 rfl (Nat.le_of_ble_eq_true rfl) (lv2 := [(2, .int (-1)), (0, .ref a0), (1, .int x1)]) rfl ?_
  refine a_iload_n dX6_buildFormula_2 rfl rfl ?_
  refine a_istore_n dX6_buildFormula_3 rfl (Nat.le_of_ble_eq_true rfl) (lv2 := [(3, .int x1), (2, .int (-1)), (0, .ref a0), (1, .int x1)]) rfl ?_
  refine a_iload_n dX6_buildFormula_4 rfl rfl ?_
  refine a_iconst (v := 1) dX6_buildFormula_5 (by decide) ?_
  refine a_isub dX6_buildFormula_6 ?_
  refine a_istore dX6_buildFormula_7 (Nat.le_of_ble_eq_true rfl) (lv2 := [(4, .int (x1 - 1)), (3, .int x1), (2, .int (-1)), (0, .ref a0), (1, .int x1)]) rfl ?_
  exact a_lv (lv2 := [(0, .ref a0), (2, .int (-1)), (3, .int x1), (4, .int (x1 - 1))]) (fa_cons rfl (fa_cons rfl (fa_cons rfl (fa_cons rfl fa_nil)))) (hJ _ _ _ h)
set_option maxHeartbeats 4000000 in
set_option maxRecDepth 100000 in
noncomputable def T_X6_buildFormula_9.{u} {α : Sort u} (J : Nat → List Value → Mem → α) (R : Int32 → Mem → α) (N : α) (n : Nat) (a0 : Nat) (x2 : Int32) (x3 : Int32) (x4 : Int32) (M : Mem) : α := if x4 < 0 then R x2 M else if 30 ≤ x4 then R x2 M else gd (fO M a0 6) N (bnd (M.2.2.2.2 a0 4) N (fun r5 => gd (fA M r5 1 x4) N (if (M.2.2.1 r5 (x4.toNatClampNeg)) = 12 then bnd (M.2.2.2.2 a0 0) N (fun r36 => bnd2 (cal n (fun n => f_X10_at n r5 x3 M)) N (fun v38 M39 => gd (fO M39 r36 1) N (bnd2 (cal n (fun n => f_X1_make n r36 9 v38 8 M39)) N (fun v45 M46 => J 100 [.ref a0, .int v45, .int x3, .int x4] M46)))) else if (M.2.2.1 r5 (x4.toNatClampNeg)) < 9 then J 100 [.ref a0, .int (M.2.2.1 r5 (x4.toNatClampNeg)), .int (x3 + (-1)), .int x4] M else bnd (M.2.2.2.2 a0 0) N (fun r13 => bnd2 (cal n (fun n => f_X10_at n r5 x3 M)) N (fun v15 M16 => gd (fO M16 a0 6) N (bnd (M16.2.2.2.2 a0 4) N (fun r22 => bnd2 (cal n (fun n => f_X10_at n r22 (x3 + 1) M16)) N (fun v24 M25 => gd (fO M25 r13 1) N (bnd2 (cal n (fun n => f_X1_make n r13 (M.2.2.1 r5 (x4.toNatClampNeg)) v15 v24 M25)) N (fun v31 M32 => J 100 [.ref a0, .int v31, .int (x3 + 1), .int x4] M32))))))))))
set_option maxHeartbeats 4000000 in
set_option maxRecDepth 100000 in
theorem n_X6_buildFormula_9.{u, v} {α : Sort u} {β : Sort v} (h : α → β) (J : Nat → List Value → Mem → α) (R : Int32 → Mem → α) (N : α) (n : Nat) (a0 : Nat) (x2 : Int32) (x3 : Int32) (x4 : Int32) (M : Mem) : h (T_X6_buildFormula_9 J R N n a0 x2 x3 x4 M) = T_X6_buildFormula_9 (fun c l M => h (J c l M)) (fun v M => h (R v M)) (h N) n a0 x2 x3 x4 M := by
  simp only [T_X6_buildFormula_9, nat_ite h, nat_gd h, nat_bnd h, nat_bnd2 h]
set_option maxHeartbeats 4000000 in
set_option maxRecDepth 100000 in
theorem w_X6_buildFormula_9 {X : Nat × (Nat → Int32)} {al : Bool} {n : Nat} {Q : Option Value → Mem → Prop} {J : Nat → List Value → Mem → Prop} (hJ : ∀ c l M, J c l M → PW_X6_buildFormula X al n Q c l M) {R : Int32 → Mem → Prop} (hR : ∀ v M, R v M → Q (some (.int v)) M) {a0 : Nat} {x2 : Int32} {x3 : Int32} {x4 : Int32} {M : Mem} (h : T_X6_buildFormula_9 J R False n a0 x2 x3 x4 M) : AW X (RX6, cX6_buildFormula, 5, (some .int), false, al, n) 0 0 9 [(0, .ref a0), (2, .int x2), (3, .int x3), (4, .int x4)] [] M Q := by
  unfold T_X6_buildFormula_9 at h
  refine a_iload dX6_buildFormula_9 rfl ?_
  refine a_if_lt 123 dX6_buildFormula_11 (by decide) (fun c1 => ?_) (fun c1 => ?_)
  · replace h := ite_t c1 h
    refine a_iload_n dX6_buildFormula_123 rfl rfl ?_
    exact a_iret dX6_buildFormula_124 rfl (hR _ _ h)
  · replace h := ite_f c1 h
    refine a_iload dX6_buildFormula_14 rfl ?_
    refine a_bipush (v := 30) dX6_buildFormula_16 (by decide) ?_
    refine a_icmp_ge 123 dX6_buildFormula_18 (by decide) (fun c2 => ?_) (fun c2 => ?_)
    · replace h := ite_t c2 h
      refine a_iload_n dX6_buildFormula_123 rfl rfl ?_
      exact a_iret dX6_buildFormula_124 rfl (hR _ _ h)
    · replace h := ite_f c2 h
      refine a_aload_n dX6_buildFormula_21 rfl rfl ?_
      obtain ⟨⟨ga3, gs4⟩, h⟩ := gd_t h
      obtain ⟨r5, e6, h⟩ := bnd_t h
      refine a_get (v := .ref r5) dX6_buildFormula_22 fl_6_22 ga3 gs4 (gvR e6 rfl) ?_
      refine a_iload dX6_buildFormula_25 rfl ?_
      obtain ⟨⟨ga7, gn8, gs9, gi10⟩, h⟩ := gd_t h
      refine a_iaload dX6_buildFormula_27 ga7 gs9 gi10 ?_
      refine a_istore_n dX6_buildFormula_28 rfl (Nat.le_of_ble_eq_true rfl) (lv2 := [(2, .int (M.2.2.1 r5 (x4.toNatClampNeg))), (0, .ref a0), (3, .int x3), (4, .int x4)]) rfl ?_
      refine a_iload_n dX6_buildFormula_29 rfl rfl ?_
      refine a_bipush (v := 12) dX6_buildFormula_30 (by decide) ?_
      refine a_icmp_ne 58 dX6_buildFormula_32 (by decide) (fun c11 => ?_) (fun c11 => ?_)
      · replace h := ite_f c11 h
        refine a_iload_n dX6_buildFormula_58 rfl rfl ?_
        refine a_bipush (v := 9) dX6_buildFormula_59 (by decide) ?_
        refine a_icmp_lt 97 dX6_buildFormula_61 (by decide) (fun c12 => ?_) (fun c12 => ?_)
        · replace h := ite_t c12 h
          refine a_iinc (v := (x3 + (-1))) dX6_buildFormula_97 rfl (by first | rfl | decide) (Nat.le_of_ble_eq_true rfl) (lv2 := [(3, .int (x3 + (-1))), (2, .int (M.2.2.1 r5 (x4.toNatClampNeg))), (0, .ref a0), (4, .int x4)]) rfl ?_
          exact a_lv (lv2 := [(0, .ref a0), (2, .int (M.2.2.1 r5 (x4.toNatClampNeg))), (3, .int (x3 + (-1))), (4, .int x4)]) (fa_cons rfl (fa_cons rfl (fa_cons rfl (fa_cons rfl fa_nil)))) (hJ _ _ _ h)
        · replace h := ite_f c12 h
          refine a_aload_n dX6_buildFormula_64 rfl rfl ?_
          obtain ⟨r13, e14, h⟩ := bnd_t h
          refine a_get (v := .ref r13) dX6_buildFormula_65 fl_6_39 ga3 gs4 (gvR e14 rfl) ?_
          refine a_iload_n dX6_buildFormula_68 rfl rfl ?_
          refine a_aload_n dX6_buildFormula_69 rfl rfl ?_
          refine a_get (v := .ref r5) dX6_buildFormula_70 fl_6_22 ga3 gs4 (gvR e6 rfl) ?_
          refine a_iload_n dX6_buildFormula_73 rfl rfl ?_
          obtain ⟨v15, M16, e17, h⟩ := bnd2_t h
          obtain ⟨n18, en19, e17⟩ := cal_t e17
          refine e_callS (As := [.ref r5, .int x3]) (st := [.int (M.2.2.1 r5 (x4.toNatClampNeg)), .ref r13]) true dX6_buildFormula_74 mw_X10_at (Or.inr ⟨rfl, mn_X6_144⟩) sm_X10_at rfl (Nat.le_of_ble_eq_true rfl) en19 (s_X10_at e17) ?_
          refine a_aload_n dX6_buildFormula_77 rfl rfl ?_
          obtain ⟨⟨ga20, gs21⟩, h⟩ := gd_t h
          obtain ⟨r22, e23, h⟩ := bnd_t h
          refine a_get (v := .ref r22) dX6_buildFormula_78 fl_6_22 ga20 gs21 (gvR e23 rfl) ?_
          refine a_iload_n dX6_buildFormula_81 rfl rfl ?_
          refine a_iconst (v := 1) dX6_buildFormula_82 (by decide) ?_
          refine a_iadd dX6_buildFormula_83 ?_
          obtain ⟨v24, M25, e26, h⟩ := bnd2_t h
          obtain ⟨n27, en28, e26⟩ := cal_t e26
          refine e_callS (As := [.ref r22, .int (x3 + 1)]) (st := [.int v15, .int (M.2.2.1 r5 (x4.toNatClampNeg)), .ref r13]) true dX6_buildFormula_84 mw_X10_at (Or.inr ⟨rfl, mn_X6_144⟩) sm_X10_at rfl (Nat.le_of_ble_eq_true rfl) en28 (s_X10_at e26) ?_
          obtain ⟨⟨ga29, gs30⟩, h⟩ := gd_t h
          obtain ⟨v31, M32, e33, h⟩ := bnd2_t h
          obtain ⟨n34, en35, e33⟩ := cal_t e33
          refine e_callV (As := [.int (M.2.2.1 r5 (x4.toNatClampNeg)), .int v15, .int v24]) (st := []) (a := r13) (ci := 1) false dX6_buildFormula_87 mw_X1_make (Or.inl ⟨rfl, ml_X6_148⟩) im_X1_make se_X1_make (by decide) ga29 gs30 rfl (Nat.le_of_ble_eq_true rfl) en35 (s_X1_make e33) ?_
          refine a_istore_n dX6_buildFormula_90 rfl (Nat.le_of_ble_eq_true rfl) (lv2 := [(2, .int v31), (0, .ref a0), (3, .int x3), (4, .int x4)]) rfl ?_
          refine a_iinc (v := (x3 + 1)) dX6_buildFormula_91 rfl (by first | rfl | decide) (Nat.le_of_ble_eq_true rfl) (lv2 := [(3, .int (x3 + 1)), (2, .int v31), (0, .ref a0), (4, .int x4)]) rfl ?_
          refine a_goto 100 dX6_buildFormula_94 (by decide) ?_
          exact a_lv (lv2 := [(0, .ref a0), (2, .int v31), (3, .int (x3 + 1)), (4, .int x4)]) (fa_cons rfl (fa_cons rfl (fa_cons rfl (fa_cons rfl fa_nil)))) (hJ _ _ _ h)
      · replace h := ite_t c11 h
        refine a_aload_n dX6_buildFormula_35 rfl rfl ?_
        obtain ⟨r36, e37, h⟩ := bnd_t h
        refine a_get (v := .ref r36) dX6_buildFormula_36 fl_6_39 ga3 gs4 (gvR e37 rfl) ?_
        refine a_bipush (v := 9) dX6_buildFormula_39 (by decide) ?_
        refine a_aload_n dX6_buildFormula_41 rfl rfl ?_
        refine a_get (v := .ref r5) dX6_buildFormula_42 fl_6_22 ga3 gs4 (gvR e6 rfl) ?_
        refine a_iload_n dX6_buildFormula_45 rfl rfl ?_
        obtain ⟨v38, M39, e40, h⟩ := bnd2_t h
        obtain ⟨n41, en42, e40⟩ := cal_t e40
        refine e_callS (As := [.ref r5, .int x3]) (st := [.int 9, .ref r36]) true dX6_buildFormula_46 mw_X10_at (Or.inr ⟨rfl, mn_X6_144⟩) sm_X10_at rfl (Nat.le_of_ble_eq_true rfl) en42 (s_X10_at e40) ?_
        refine a_bipush (v := 8) dX6_buildFormula_49 (by decide) ?_
        obtain ⟨⟨ga43, gs44⟩, h⟩ := gd_t h
        obtain ⟨v45, M46, e47, h⟩ := bnd2_t h
        obtain ⟨n48, en49, e47⟩ := cal_t e47
        refine e_callV (As := [.int 9, .int v38, .int 8]) (st := []) (a := r36) (ci := 1) false dX6_buildFormula_51 mw_X1_make (Or.inl ⟨rfl, ml_X6_148⟩) im_X1_make se_X1_make (by decide) ga43 gs44 rfl (Nat.le_of_ble_eq_true rfl) en49 (s_X1_make e47) ?_
        refine a_istore_n dX6_buildFormula_54 rfl (Nat.le_of_ble_eq_true rfl) (lv2 := [(2, .int v45), (0, .ref a0), (3, .int x3), (4, .int x4)]) rfl ?_
        refine a_goto 100 dX6_buildFormula_55 (by decide) ?_
        exact a_lv (lv2 := [(0, .ref a0), (2, .int v45), (3, .int x3), (4, .int x4)]) (fa_cons rfl (fa_cons rfl (fa_cons rfl (fa_cons rfl fa_nil)))) (hJ _ _ _ h)
set_option maxHeartbeats 4000000 in
set_option maxRecDepth 100000 in
noncomputable def T_X6_buildFormula_100.{u} {α : Sort u} (J : Nat → List Value → Mem → α) (R : Int32 → Mem → α) (N : α) (n : Nat) (a0 : Nat) (x2 : Int32) (x3 : Int32) (x4 : Int32) (M : Mem) : α := if x3 < 0 then J 9 [.ref a0, .int x2, .int x3, .int (x4 + (-1))] M else if 30 ≤ x3 then J 9 [.ref a0, .int x2, .int x3, .int (x4 + (-1))] M else gd (fO M a0 6) N (bnd (M.2.2.2.2 a0 4) N (fun r5 => gd (fA M r5 1 x3) N (J 9 [.ref a0, .int x2, .int x3, .int (x4 + (-1))] (wI M r5 (x3.toNatClampNeg) x2))))
set_option maxHeartbeats 4000000 in
set_option maxRecDepth 100000 in
theorem n_X6_buildFormula_100.{u, v} {α : Sort u} {β : Sort v} (h : α → β) (J : Nat → List Value → Mem → α) (R : Int32 → Mem → α) (N : α) (n : Nat) (a0 : Nat) (x2 : Int32) (x3 : Int32) (x4 : Int32) (M : Mem) : h (T_X6_buildFormula_100 J R N n a0 x2 x3 x4 M) = T_X6_buildFormula_100 (fun c l M => h (J c l M)) (fun v M => h (R v M)) (h N) n a0 x2 x3 x4 M := by
  simp only [T_X6_buildFormula_100, nat_ite h, nat_gd h, nat_bnd h, nat_bnd2 h]
set_option maxHeartbeats 4000000 in
set_option maxRecDepth 100000 in
theorem w_X6_buildFormula_100 {X : Nat × (Nat → Int32)} {al : Bool} {n : Nat} {Q : Option Value → Mem → Prop} {J : Nat → List Value → Mem → Prop} (hJ : ∀ c l M, J c l M → PW_X6_buildFormula X al n Q c l M) {R : Int32 → Mem → Prop} (hR : ∀ v M, R v M → Q (some (.int v)) M) {a0 : Nat} {x2 : Int32} {x3 : Int32} {x4 : Int32} {M : Mem} (h : T_X6_buildFormula_100 J R False n a0 x2 x3 x4 M) : AW X (RX6, cX6_buildFormula, 5, (some .int), false, al, n) 0 0 100 [(0, .ref a0), (2, .int x2), (3, .int x3), (4, .int x4)] [] M Q := by
  unfold T_X6_buildFormula_100 at h
  refine a_iload_n dX6_buildFormula_100 rfl rfl ?_
  refine a_if_lt 117 dX6_buildFormula_101 (by decide) (fun c1 => ?_) (fun c1 => ?_)
  · replace h := ite_t c1 h
    refine a_iinc (v := (x4 + (-1))) dX6_buildFormula_117 rfl (by first | rfl | decide) (Nat.le_of_ble_eq_true rfl) (lv2 := [(4, .int (x4 + (-1))), (0, .ref a0), (2, .int x2), (3, .int x3)]) rfl ?_
    refine a_goto 9 dX6_buildFormula_120 (by decide) ?_
    exact a_lv (lv2 := [(0, .ref a0), (2, .int x2), (3, .int x3), (4, .int (x4 + (-1)))]) (fa_cons rfl (fa_cons rfl (fa_cons rfl (fa_cons rfl fa_nil)))) (hJ _ _ _ h)
  · replace h := ite_f c1 h
    refine a_iload_n dX6_buildFormula_104 rfl rfl ?_
    refine a_bipush (v := 30) dX6_buildFormula_105 (by decide) ?_
    refine a_icmp_ge 117 dX6_buildFormula_107 (by decide) (fun c2 => ?_) (fun c2 => ?_)
    · replace h := ite_t c2 h
      refine a_iinc (v := (x4 + (-1))) dX6_buildFormula_117 rfl (by first | rfl | decide) (Nat.le_of_ble_eq_true rfl) (lv2 := [(4, .int (x4 + (-1))), (0, .ref a0), (2, .int x2), (3, .int x3)]) rfl ?_
      refine a_goto 9 dX6_buildFormula_120 (by decide) ?_
      exact a_lv (lv2 := [(0, .ref a0), (2, .int x2), (3, .int x3), (4, .int (x4 + (-1)))]) (fa_cons rfl (fa_cons rfl (fa_cons rfl (fa_cons rfl fa_nil)))) (hJ _ _ _ h)
    · replace h := ite_f c2 h
      refine a_aload_n dX6_buildFormula_110 rfl rfl ?_
      obtain ⟨⟨ga3, gs4⟩, h⟩ := gd_t h
      obtain ⟨r5, e6, h⟩ := bnd_t h
      refine a_get (v := .ref r5) dX6_buildFormula_111 fl_6_22 ga3 gs4 (gvR e6 rfl) ?_
      refine a_iload_n dX6_buildFormula_114 rfl rfl ?_
      refine a_iload_n dX6_buildFormula_115 rfl rfl ?_
      obtain ⟨⟨ga7, gn8, gs9, gi10⟩, h⟩ := gd_t h
      refine a_iastore dX6_buildFormula_116 ga7 gs9 gi10 ?_
      refine a_iinc (v := (x4 + (-1))) dX6_buildFormula_117 rfl (by first | rfl | decide) (Nat.le_of_ble_eq_true rfl) (lv2 := [(4, .int (x4 + (-1))), (0, .ref a0), (2, .int x2), (3, .int x3)]) rfl ?_
      refine a_goto 9 dX6_buildFormula_120 (by decide) ?_
      exact a_lv (lv2 := [(0, .ref a0), (2, .int x2), (3, .int x3), (4, .int (x4 + (-1)))]) (fa_cons rfl (fa_cons rfl (fa_cons rfl (fa_cons rfl fa_nil)))) (hJ _ _ _ h)
set_option maxHeartbeats 4000000 in
set_option maxRecDepth 100000 in
noncomputable def st_X6_buildFormula (n : Nat) (s : Sg) : Option (Sg ⊕ (Int32 × Mem)) := if s.1 = 0 then vR s.2.1 none (fun a0 t => vI t none (fun x1 t => vE t none (T_X6_buildFormula_0 (fun c l M => some (.inl (c, l, M))) (fun v M => some (.inr (v, M))) none n a0 x1 s.2.2))) else if s.1 = 9 then vR s.2.1 none (fun a0 t => vI t none (fun x2 t => vI t none (fun x3 t => vI t none (fun x4 t => vE t none (T_X6_buildFormula_9 (fun c l M => some (.inl (c, l, M))) (fun v M => some (.inr (v, M))) none n a0 x2 x3 x4 s.2.2))))) else if s.1 = 100 then vR s.2.1 none (fun a0 t => vI t none (fun x2 t => vI t none (fun x3 t => vI t none (fun x4 t => vE t none (T_X6_buildFormula_100 (fun c l M => some (.inl (c, l, M))) (fun v M => some (.inr (v, M))) none n a0 x2 x3 x4 s.2.2))))) else none
noncomputable abbrev g_X6_buildFormula_0 (n : Nat) (a0 : Nat) (x1 : Int32) (M : Mem) : Option (Int32 × Mem) := lp (st_X6_buildFormula n) (0, [.ref a0, .int x1], M)
set_option maxHeartbeats 4000000 in
set_option maxRecDepth 100000 in
theorem ge_X6_buildFormula_0 (n : Nat) (a0 : Nat) (x1 : Int32) (M : Mem) : g_X6_buildFormula_0 n a0 x1 M = T_X6_buildFormula_0 (fun c l M => lp (st_X6_buildFormula n) (c, l, M)) (fun v M => some (v, M)) none n a0 x1 M := (lp_eq _ _).trans (n_X6_buildFormula_0 (lpK (st_X6_buildFormula n)) (fun c l M => some (.inl (c, l, M))) (fun v M => some (.inr (v, M))) none n a0 x1 M)
noncomputable abbrev g_X6_buildFormula_9 (n : Nat) (a0 : Nat) (x2 : Int32) (x3 : Int32) (x4 : Int32) (M : Mem) : Option (Int32 × Mem) := lp (st_X6_buildFormula n) (9, [.ref a0, .int x2, .int x3, .int x4], M)
set_option maxHeartbeats 4000000 in
set_option maxRecDepth 100000 in
theorem ge_X6_buildFormula_9 (n : Nat) (a0 : Nat) (x2 : Int32) (x3 : Int32) (x4 : Int32) (M : Mem) : g_X6_buildFormula_9 n a0 x2 x3 x4 M = T_X6_buildFormula_9 (fun c l M => lp (st_X6_buildFormula n) (c, l, M)) (fun v M => some (v, M)) none n a0 x2 x3 x4 M := (lp_eq _ _).trans (n_X6_buildFormula_9 (lpK (st_X6_buildFormula n)) (fun c l M => some (.inl (c, l, M))) (fun v M => some (.inr (v, M))) none n a0 x2 x3 x4 M)
noncomputable abbrev g_X6_buildFormula_100 (n : Nat) (a0 : Nat) (x2 : Int32) (x3 : Int32) (x4 : Int32) (M : Mem) : Option (Int32 × Mem) := lp (st_X6_buildFormula n) (100, [.ref a0, .int x2, .int x3, .int x4], M)
set_option maxHeartbeats 4000000 in
set_option maxRecDepth 100000 in
theorem ge_X6_buildFormula_100 (n : Nat) (a0 : Nat) (x2 : Int32) (x3 : Int32) (x4 : Int32) (M : Mem) : g_X6_buildFormula_100 n a0 x2 x3 x4 M = T_X6_buildFormula_100 (fun c l M => lp (st_X6_buildFormula n) (c, l, M)) (fun v M => some (v, M)) none n a0 x2 x3 x4 M := (lp_eq _ _).trans (n_X6_buildFormula_100 (lpK (st_X6_buildFormula n)) (fun c l M => some (.inl (c, l, M))) (fun v M => some (.inr (v, M))) none n a0 x2 x3 x4 M)
noncomputable def b_X6_buildFormula (n : Nat) (a0 : Nat) (x1 : Int32) (M : Mem) : Option (Int32 × Mem) := g_X6_buildFormula_0 n a0 x1 M
set_option maxHeartbeats 4000000 in
set_option maxRecDepth 100000 in
theorem sb_X6_buildFormula {X : Nat × (Nat → Int32)} {al : Bool} {n : Nat} {a0 : Nat} {x1 : Int32} {M : Mem} {v : Int32} {M1 : Mem} (h : b_X6_buildFormula n a0 x1 M = some (v, M1)) : AE yX6_buildFormula cX6_buildFormula 5 (some .int) al n X [.ref a0, .int x1] M (some (.int v)) M1 := by
  refine AM.of false (by decide +kernel) (by intro h; cases h) (Nat.le_of_ble_eq_true rfl) ?_
  refine lp_snd (P := fun s r => PW_X6_buildFormula X al n (fun v M2 => v = (some (.int r.1)) ∧ M2 = r.2) s.1 s.2.1 s.2.2) ?_ h
  clear h
  rintro ⟨c, l, M⟩ r h
  unfold st_X6_buildFormula at h
  rcases ite_p h with ⟨e, h⟩ | ⟨e, h⟩
  · replace e : c = 0 := e
    subst e
    obtain ⟨a0, tt0, e, h⟩ := vR_p id h
    replace e : l = _ := e
    subst e
    obtain ⟨x1, tt1, e, h⟩ := vI_p id h
    replace e : tt0 = _ := e
    subst e
    obtain ⟨e, h⟩ := vE_p id h
    replace e : tt1 = [] := e
    subst e
    exact w_X6_buildFormula_0 (J := fun c l M => PW_X6_buildFormula X al n (fun v M2 => v = (some (.int r.1)) ∧ M2 = r.2) c l M) (R := fun v M => (v, M) = r) (fun _ _ _ h => h) (fun v M h => by cases h; exact ⟨rfl, rfl⟩) ((n_X6_buildFormula_0 (lpP (fun (s : Sg) (r : Int32 × Mem) => PW_X6_buildFormula X al n (fun v M2 => v = (some (.int r.1)) ∧ M2 = r.2) s.1 s.2.1 s.2.2) r) (fun c l M => some (.inl (c, l, M))) (fun v M => some (.inr (v, M))) none n a0 x1 M).mp h)
  rcases ite_p h with ⟨e, h⟩ | ⟨e, h⟩
  · replace e : c = 9 := e
    subst e
    obtain ⟨a0, tt0, e, h⟩ := vR_p id h
    replace e : l = _ := e
    subst e
    obtain ⟨x2, tt1, e, h⟩ := vI_p id h
    replace e : tt0 = _ := e
    subst e
    obtain ⟨x3, tt2, e, h⟩ := vI_p id h
    replace e : tt1 = _ := e
    subst e
    obtain ⟨x4, tt3, e, h⟩ := vI_p id h
    replace e : tt2 = _ := e
    subst e
    obtain ⟨e, h⟩ := vE_p id h
    replace e : tt3 = [] := e
    subst e
    exact w_X6_buildFormula_9 (J := fun c l M => PW_X6_buildFormula X al n (fun v M2 => v = (some (.int r.1)) ∧ M2 = r.2) c l M) (R := fun v M => (v, M) = r) (fun _ _ _ h => h) (fun v M h => by cases h; exact ⟨rfl, rfl⟩) ((n_X6_buildFormula_9 (lpP (fun (s : Sg) (r : Int32 × Mem) => PW_X6_buildFormula X al n (fun v M2 => v = (some (.int r.1)) ∧ M2 = r.2) s.1 s.2.1 s.2.2) r) (fun c l M => some (.inl (c, l, M))) (fun v M => some (.inr (v, M))) none n a0 x2 x3 x4 M).mp h)
  rcases ite_p h with ⟨e, h⟩ | ⟨e, h⟩
  · replace e : c = 100 := e
    subst e
    obtain ⟨a0, tt0, e, h⟩ := vR_p id h
    replace e : l = _ := e
    subst e
    obtain ⟨x2, tt1, e, h⟩ := vI_p id h
    replace e : tt0 = _ := e
    subst e
    obtain ⟨x3, tt2, e, h⟩ := vI_p id h
    replace e : tt1 = _ := e
    subst e
    obtain ⟨x4, tt3, e, h⟩ := vI_p id h
    replace e : tt2 = _ := e
    subst e
    obtain ⟨e, h⟩ := vE_p id h
    replace e : tt3 = [] := e
    subst e
    exact w_X6_buildFormula_100 (J := fun c l M => PW_X6_buildFormula X al n (fun v M2 => v = (some (.int r.1)) ∧ M2 = r.2) c l M) (R := fun v M => (v, M) = r) (fun _ _ _ h => h) (fun v M h => by cases h; exact ⟨rfl, rfl⟩) ((n_X6_buildFormula_100 (lpP (fun (s : Sg) (r : Int32 × Mem) => PW_X6_buildFormula X al n (fun v M2 => v = (some (.int r.1)) ∧ M2 = r.2) s.1 s.2.1 s.2.2) r) (fun c l M => some (.inl (c, l, M))) (fun v M => some (.inr (v, M))) none n a0 x2 x3 x4 M).mp h)
  · exact h.elim

noncomputable abbrev f_X6_buildFormula := b_X6_buildFormula
theorem s_X6_buildFormula {X : Nat × (Nat → Int32)} {al : Bool} {n : Nat} {a0 : Nat} {x1 : Int32} {M : Mem} {v : Int32} {M1 : Mem} (h : f_X6_buildFormula n a0 x1 M = some (v, M1)) : AE yX6_buildFormula cX6_buildFormula 5 (some .int) al n X [.ref a0, .int x1] M (some (.int v)) M1 := sb_X6_buildFormula h
def ix_X6_readFormula (c : Nat) : List Nat := if c = 0 then [0] else if c = 6 then [0, 1, 2, 3] else if c = 114 then [0, 2, 3] else []
def PW_X6_readFormula (X : Nat × (Nat → Int32)) (al : Bool) (n : Nat) (Q : Option Value → Mem → Prop) (c : Nat) (l : List Value) (M : Mem) : Prop := AW X (RX6, cX6_readFormula, 4, (some .int), false, al, n) 0 0 c (List.zip (ix_X6_readFormula c) l) (l.drop (ix_X6_readFormula c).length) M Q
set_option maxHeartbeats 4000000 in
set_option maxRecDepth 100000 in
noncomputable def T_X6_readFormula_0.{u} {α : Sort u} (J : Nat → List Value → Mem → α) (R : Int32 → Mem → α) (N : α) (n : Nat) (a0 : Nat) (M : Mem) : α := J 6 [.ref a0, .int 1, .int 0, .int 0] M
set_option maxHeartbeats 4000000 in
set_option maxRecDepth 100000 in
theorem n_X6_readFormula_0.{u, v} {α : Sort u} {β : Sort v} (h : α → β) (J : Nat → List Value → Mem → α) (R : Int32 → Mem → α) (N : α) (n : Nat) (a0 : Nat) (M : Mem) : h (T_X6_readFormula_0 J R N n a0 M) = T_X6_readFormula_0 (fun c l M => h (J c l M)) (fun v M => h (R v M)) (h N) n a0 M := by
  simp only [T_X6_readFormula_0, nat_ite h, nat_gd h, nat_bnd h, nat_bnd2 h]
set_option maxHeartbeats 4000000 in
set_option maxRecDepth 100000 in
theorem w_X6_readFormula_0 {X : Nat × (Nat → Int32)} {al : Bool} {n : Nat} {Q : Option Value → Mem → Prop} {J : Nat → List Value → Mem → Prop} (hJ : ∀ c l M, J c l M → PW_X6_readFormula X al n Q c l M) {R : Int32 → Mem → Prop} (hR : ∀ v M, R v M → Q (some (.int v)) M) {a0 : Nat} {M : Mem} (h : T_X6_readFormula_0 J R False n a0 M) : AW X (RX6, cX6_readFormula, 4, (some .int), false, al, n) 0 0 0 [(0, .ref a0)] [] M Q := by
  unfold T_X6_readFormula_0 at h
  refine a_iconst (v := 1) dX6_readFormula_0 (by decide) ?_
  refine a_istore_n dX6_readFormula_1 rfl (Nat.le_of_ble_eq_true rfl) (lv2 := [(1, .int 1), (0, .ref a0)]) rfl ?_
  refine a_iconst (v := 0) dX6_readFormula_2 (by decide) ?_
  refine a_istore_n dX6_readFormula_3 rfl (Nat.le_of_ble_eq_true rfl) (lv2 := [(2, .int 0), (1, .int 1), (0, .ref a0)]) rfl ?_
  refine a_iconst (v := 0) dX6_readFormula_4 (by decide) ?_
  refine a_istore_n dX6_readFormula_5 rfl (Nat.le_of_ble_eq_true rfl) (lv2 := [(3, .int 0), (2, .int 0), (1, .int 1), (0, .ref a0)]) rfl ?_
  exact a_lv (lv2 := [(0, .ref a0), (1, .int 1), (2, .int 0), (3, .int 0)]) (fa_cons rfl (fa_cons rfl (fa_cons rfl (fa_cons rfl fa_nil)))) (hJ _ _ _ h)
set_option maxHeartbeats 4000000 in
set_option maxRecDepth 100000 in
noncomputable def T_X6_readFormula_6.{u} {α : Sort u} (J : Nat → List Value → Mem → α) (R : Int32 → Mem → α) (N : α) (n : Nat) (a0 : Nat) (x1 : Int32) (x2 : Int32) (x3 : Int32) (M : Mem) : α := if x1 ≤ 0 then J 114 [.ref a0, .int x2, .int x3] M else if 30 < x3 then J 114 [.ref a0, .int x2, .int x3] M else gd (fO M a0 6) N (bnd2 (cal n (fun n => f_X6_advance n a0 M)) N (fun _ M5 => gd (fO M5 a0 6) N (if (M5.2.2.1 a0 13) < 0 then bnd2 (cal n (fun n => f_X6_fail n a0 1 (M5.2.2.1 a0 12) M5)) N (fun v12 M13 => R (-1) M13) else if (M5.2.2.1 a0 13) ≤ 12 then if x3 < 30 then bnd (M5.2.2.2.2 a0 4) N (fun r19 => gd (fA M5 r19 1 x3) N (if ((wI M5 r19 (x3.toNatClampNeg) (M5.2.2.1 a0 13)).2.2.1 a0 13) = 12 then J 6 [.ref a0, .int x1, .int (x2 + 1), .int (x3 + 1)] (wI M5 r19 (x3.toNatClampNeg) (M5.2.2.1 a0 13)) else if ((wI M5 r19 (x3.toNatClampNeg) (M5.2.2.1 a0 13)).2.2.1 a0 13) < 9 then J 6 [.ref a0, .int (x1 + (-1)), .int x2, .int (x3 + 1)] (wI M5 r19 (x3.toNatClampNeg) (M5.2.2.1 a0 13)) else J 6 [.ref a0, .int (x1 + 1), .int x2, .int (x3 + 1)] (wI M5 r19 (x3.toNatClampNeg) (M5.2.2.1 a0 13)))) else bnd2 (cal n (fun n => f_X6_fail n a0 4 (M5.2.2.1 a0 12) M5)) N (fun v27 M28 => R (-1) M28) else bnd2 (cal n (fun n => f_X6_fail n a0 1 (M5.2.2.1 a0 12) M5)) N (fun v32 M33 => R (-1) M33))))
set_option maxHeartbeats 4000000 in
set_option maxRecDepth 100000 in
theorem n_X6_readFormula_6.{u, v} {α : Sort u} {β : Sort v} (h : α → β) (J : Nat → List Value → Mem → α) (R : Int32 → Mem → α) (N : α) (n : Nat) (a0 : Nat) (x1 : Int32) (x2 : Int32) (x3 : Int32) (M : Mem) : h (T_X6_readFormula_6 J R N n a0 x1 x2 x3 M) = T_X6_readFormula_6 (fun c l M => h (J c l M)) (fun v M => h (R v M)) (h N) n a0 x1 x2 x3 M := by
  simp only [T_X6_readFormula_6, nat_ite h, nat_gd h, nat_bnd h, nat_bnd2 h]
set_option maxHeartbeats 4000000 in
set_option maxRecDepth 100000 in
theorem w_X6_readFormula_6 {X : Nat × (Nat → Int32)} {al : Bool} {n : Nat} {Q : Option Value → Mem → Prop} {J : Nat → List Value → Mem → Prop} (hJ : ∀ c l M, J c l M → PW_X6_readFormula X al n Q c l M) {R : Int32 → Mem → Prop} (hR : ∀ v M, R v M → Q (some (.int v)) M) {a0 : Nat} {x1 : Int32} {x2 : Int32} {x3 : Int32} {M : Mem} (h : T_X6_readFormula_6 J R False n a0 x1 x2 x3 M) : AW X (RX6, cX6_readFormula, 4, (some .int), false, al, n) 0 0 6 [(0, .ref a0), (1, .int x1), (2, .int x2), (3, .int x3)] [] M Q := by
  unfold T_X6_readFormula_6 at h
  refine a_iload_n dX6_readFormula_6 rfl rfl ?_
  refine a_if_le 114 dX6_readFormula_7 (by decide) (fun c1 => ?_) (fun c1 => ?_)
  · replace h := ite_t c1 h
    exact a_lv (lv2 := [(0, .ref a0), (2, .int x2), (3, .int x3)]) (fa_cons rfl (fa_cons rfl (fa_cons rfl fa_nil))) (hJ _ _ _ h)
  · replace h := ite_f c1 h
    refine a_iload_n dX6_readFormula_10 rfl rfl ?_
    refine a_bipush (v := 30) dX6_readFormula_11 (by decide) ?_
    refine a_icmp_gt 114 dX6_readFormula_13 (by decide) (fun c2 => ?_) (fun c2 => ?_)
    · replace h := ite_t c2 h
      exact a_lv (lv2 := [(0, .ref a0), (2, .int x2), (3, .int x3)]) (fa_cons rfl (fa_cons rfl (fa_cons rfl fa_nil))) (hJ _ _ _ h)
    · replace h := ite_f c2 h
      refine a_aload_n dX6_readFormula_16 rfl rfl ?_
      obtain ⟨⟨ga3, gs4⟩, h⟩ := gd_t h
      obtain ⟨_, M5, e6, h⟩ := bnd2_t h
      obtain ⟨n7, en8, e6⟩ := cal_t e6
      refine e_callV (As := []) (st := []) (a := a0) (ci := 6) false dX6_readFormula_17 mw_X6_advance (Or.inl ⟨rfl, ml_X6_97⟩) im_X6_advance se_X6_advance (by decide) ga3 gs4 rfl (Nat.le_of_ble_eq_true rfl) en8 (s_X6_advance e6) ?_
      refine a_aload_n dX6_readFormula_20 rfl rfl ?_
      obtain ⟨⟨ga9, gs10⟩, h⟩ := gd_t h
      refine a_get (v := .int (M5.2.2.1 a0 13)) dX6_readFormula_21 fl_6_75 ga9 gs10 rfl ?_
      refine a_if_lt 36 dX6_readFormula_24 (by decide) (fun c11 => ?_) (fun c11 => ?_)
      · replace h := ite_t c11 h
        refine a_aload_n dX6_readFormula_36 rfl rfl ?_
        refine a_iconst (v := 1) dX6_readFormula_37 (by decide) ?_
        refine a_aload_n dX6_readFormula_38 rfl rfl ?_
        refine a_get (v := .int (M5.2.2.1 a0 12)) dX6_readFormula_39 fl_6_68 ga9 gs10 rfl ?_
        obtain ⟨v12, M13, e14, h⟩ := bnd2_t h
        obtain ⟨n15, en16, e14⟩ := cal_t e14
        refine e_callV (As := [.int 1, .int (M5.2.2.1 a0 12)]) (st := []) (a := a0) (ci := 6) false dX6_readFormula_42 mw_X6_fail (Or.inl ⟨rfl, ml_X6_107⟩) im_X6_fail se_X6_fail (by decide) ga9 gs10 rfl (Nat.le_of_ble_eq_true rfl) en16 (s_X6_fail e14) ?_
        refine a_pop dX6_readFormula_45 rfl ?_
        refine a_iconst (v := -1) dX6_readFormula_46 (by decide) ?_
        exact a_iret dX6_readFormula_47 rfl (hR _ _ h)
      · replace h := ite_f c11 h
        refine a_aload_n dX6_readFormula_27 rfl rfl ?_
        refine a_get (v := .int (M5.2.2.1 a0 13)) dX6_readFormula_28 fl_6_75 ga9 gs10 rfl ?_
        refine a_bipush (v := 12) dX6_readFormula_31 (by decide) ?_
        refine a_icmp_le 48 dX6_readFormula_33 (by decide) (fun c17 => ?_) (fun c17 => ?_)
        · replace h := ite_t c17 h
          refine a_iload_n dX6_readFormula_48 rfl rfl ?_
          refine a_bipush (v := 30) dX6_readFormula_49 (by decide) ?_
          refine a_icmp_lt 66 dX6_readFormula_51 (by decide) (fun c18 => ?_) (fun c18 => ?_)
          · replace h := ite_t c18 h
            refine a_aload_n dX6_readFormula_66 rfl rfl ?_
            obtain ⟨r19, e20, h⟩ := bnd_t h
            refine a_get (v := .ref r19) dX6_readFormula_67 fl_6_22 ga9 gs10 (gvR e20 rfl) ?_
            refine a_iload_n dX6_readFormula_70 rfl rfl ?_
            refine a_aload_n dX6_readFormula_71 rfl rfl ?_
            refine a_get (v := .int (M5.2.2.1 a0 13)) dX6_readFormula_72 fl_6_75 ga9 gs10 rfl ?_
            obtain ⟨⟨ga21, gn22, gs23, gi24⟩, h⟩ := gd_t h
            refine a_iastore dX6_readFormula_75 ga21 gs23 gi24 ?_
            refine a_iinc (v := (x3 + 1)) dX6_readFormula_76 rfl (by first | rfl | decide) (Nat.le_of_ble_eq_true rfl) (lv2 := [(3, .int (x3 + 1)), (0, .ref a0), (1, .int x1), (2, .int x2)]) rfl ?_
            refine a_aload_n dX6_readFormula_79 rfl rfl ?_
            refine a_get (v := .int ((wI M5 r19 (x3.toNatClampNeg) (M5.2.2.1 a0 13)).2.2.1 a0 13)) dX6_readFormula_80 fl_6_75 ga9 gs10 rfl ?_
            refine a_bipush (v := 12) dX6_readFormula_83 (by decide) ?_
            refine a_icmp_ne 94 dX6_readFormula_85 (by decide) (fun c25 => ?_) (fun c25 => ?_)
            · replace h := ite_f c25 h
              refine a_iload_n dX6_readFormula_94 rfl rfl ?_
              refine a_aload_n dX6_readFormula_95 rfl rfl ?_
              refine a_get (v := .int ((wI M5 r19 (x3.toNatClampNeg) (M5.2.2.1 a0 13)).2.2.1 a0 13)) dX6_readFormula_96 fl_6_75 ga9 gs10 rfl ?_
              refine a_bipush (v := 9) dX6_readFormula_99 (by decide) ?_
              refine a_icmp_lt 108 dX6_readFormula_101 (by decide) (fun c26 => ?_) (fun c26 => ?_)
              · replace h := ite_t c26 h
                refine a_iconst (v := -1) dX6_readFormula_108 (by decide) ?_
                refine a_iadd dX6_readFormula_109 ?_
                refine a_istore_n dX6_readFormula_110 rfl (Nat.le_of_ble_eq_true rfl) (lv2 := [(1, .int (x1 + (-1))), (3, .int (x3 + 1)), (0, .ref a0), (2, .int x2)]) rfl ?_
                refine a_goto 6 dX6_readFormula_111 (by decide) ?_
                exact a_lv (lv2 := [(0, .ref a0), (1, .int (x1 + (-1))), (2, .int x2), (3, .int (x3 + 1))]) (fa_cons rfl (fa_cons rfl (fa_cons rfl (fa_cons rfl fa_nil)))) (hJ _ _ _ h)
              · replace h := ite_f c26 h
                refine a_iconst (v := 1) dX6_readFormula_104 (by decide) ?_
                refine a_goto 109 dX6_readFormula_105 (by decide) ?_
                refine a_iadd dX6_readFormula_109 ?_
                refine a_istore_n dX6_readFormula_110 rfl (Nat.le_of_ble_eq_true rfl) (lv2 := [(1, .int (x1 + 1)), (3, .int (x3 + 1)), (0, .ref a0), (2, .int x2)]) rfl ?_
                refine a_goto 6 dX6_readFormula_111 (by decide) ?_
                exact a_lv (lv2 := [(0, .ref a0), (1, .int (x1 + 1)), (2, .int x2), (3, .int (x3 + 1))]) (fa_cons rfl (fa_cons rfl (fa_cons rfl (fa_cons rfl fa_nil)))) (hJ _ _ _ h)
            · replace h := ite_t c25 h
              refine a_iinc (v := (x2 + 1)) dX6_readFormula_88 rfl (by first | rfl | decide) (Nat.le_of_ble_eq_true rfl) (lv2 := [(2, .int (x2 + 1)), (3, .int (x3 + 1)), (0, .ref a0), (1, .int x1)]) rfl ?_
              refine a_goto 6 dX6_readFormula_91 (by decide) ?_
              exact a_lv (lv2 := [(0, .ref a0), (1, .int x1), (2, .int (x2 + 1)), (3, .int (x3 + 1))]) (fa_cons rfl (fa_cons rfl (fa_cons rfl (fa_cons rfl fa_nil)))) (hJ _ _ _ h)
          · replace h := ite_f c18 h
            refine a_aload_n dX6_readFormula_54 rfl rfl ?_
            refine a_iconst (v := 4) dX6_readFormula_55 (by decide) ?_
            refine a_aload_n dX6_readFormula_56 rfl rfl ?_
            refine a_get (v := .int (M5.2.2.1 a0 12)) dX6_readFormula_57 fl_6_68 ga9 gs10 rfl ?_
            obtain ⟨v27, M28, e29, h⟩ := bnd2_t h
            obtain ⟨n30, en31, e29⟩ := cal_t e29
            refine e_callV (As := [.int 4, .int (M5.2.2.1 a0 12)]) (st := []) (a := a0) (ci := 6) false dX6_readFormula_60 mw_X6_fail (Or.inl ⟨rfl, ml_X6_107⟩) im_X6_fail se_X6_fail (by decide) ga9 gs10 rfl (Nat.le_of_ble_eq_true rfl) en31 (s_X6_fail e29) ?_
            refine a_pop dX6_readFormula_63 rfl ?_
            refine a_iconst (v := -1) dX6_readFormula_64 (by decide) ?_
            exact a_iret dX6_readFormula_65 rfl (hR _ _ h)
        · replace h := ite_f c17 h
          refine a_aload_n dX6_readFormula_36 rfl rfl ?_
          refine a_iconst (v := 1) dX6_readFormula_37 (by decide) ?_
          refine a_aload_n dX6_readFormula_38 rfl rfl ?_
          refine a_get (v := .int (M5.2.2.1 a0 12)) dX6_readFormula_39 fl_6_68 ga9 gs10 rfl ?_
          obtain ⟨v32, M33, e34, h⟩ := bnd2_t h
          obtain ⟨n35, en36, e34⟩ := cal_t e34
          refine e_callV (As := [.int 1, .int (M5.2.2.1 a0 12)]) (st := []) (a := a0) (ci := 6) false dX6_readFormula_42 mw_X6_fail (Or.inl ⟨rfl, ml_X6_107⟩) im_X6_fail se_X6_fail (by decide) ga9 gs10 rfl (Nat.le_of_ble_eq_true rfl) en36 (s_X6_fail e34) ?_
          refine a_pop dX6_readFormula_45 rfl ?_
          refine a_iconst (v := -1) dX6_readFormula_46 (by decide) ?_
          exact a_iret dX6_readFormula_47 rfl (hR _ _ h)
set_option maxHeartbeats 4000000 in
set_option maxRecDepth 100000 in
noncomputable def T_X6_readFormula_114.{u} {α : Sort u} (J : Nat → List Value → Mem → α) (R : Int32 → Mem → α) (N : α) (n : Nat) (a0 : Nat) (x2 : Int32) (x3 : Int32) (M : Mem) : α := gd (fO M a0 6) N (bnd2 (cal n (fun n => f_X6_buildFormula n a0 x3 (wI (wI M a0 15 x3) a0 16 (x3 + x2)))) N (fun v3 M4 => R v3 M4))
set_option maxHeartbeats 4000000 in
set_option maxRecDepth 100000 in
theorem n_X6_readFormula_114.{u, v} {α : Sort u} {β : Sort v} (h : α → β) (J : Nat → List Value → Mem → α) (R : Int32 → Mem → α) (N : α) (n : Nat) (a0 : Nat) (x2 : Int32) (x3 : Int32) (M : Mem) : h (T_X6_readFormula_114 J R N n a0 x2 x3 M) = T_X6_readFormula_114 (fun c l M => h (J c l M)) (fun v M => h (R v M)) (h N) n a0 x2 x3 M := by
  simp only [T_X6_readFormula_114, nat_ite h, nat_gd h, nat_bnd h, nat_bnd2 h]
set_option maxHeartbeats 4000000 in
set_option maxRecDepth 100000 in
theorem w_X6_readFormula_114 {X : Nat × (Nat → Int32)} {al : Bool} {n : Nat} {Q : Option Value → Mem → Prop} {J : Nat → List Value → Mem → Prop} (hJ : ∀ c l M, J c l M → PW_X6_readFormula X al n Q c l M) {R : Int32 → Mem → Prop} (hR : ∀ v M, R v M → Q (some (.int v)) M) {a0 : Nat} {x2 : Int32} {x3 : Int32} {M : Mem} (h : T_X6_readFormula_114 J R False n a0 x2 x3 M) : AW X (RX6, cX6_readFormula, 4, (some .int), false, al, n) 0 0 114 [(0, .ref a0), (2, .int x2), (3, .int x3)] [] M Q := by
  unfold T_X6_readFormula_114 at h
  refine a_aload_n dX6_readFormula_114 rfl rfl ?_
  refine a_iload_n dX6_readFormula_115 rfl rfl ?_
  obtain ⟨⟨ga1, gs2⟩, h⟩ := gd_t h
  refine a_putI dX6_readFormula_116 (Or.inl ⟨fl_6_138, Or.inl rfl⟩) rfl ga1 gs2 rfl rfl ?_
  refine a_aload_n dX6_readFormula_119 rfl rfl ?_
  refine a_iload_n dX6_readFormula_120 rfl rfl ?_
  refine a_iload_n dX6_readFormula_121 rfl rfl ?_
  refine a_iadd dX6_readFormula_122 ?_
  refine a_putI dX6_readFormula_123 (Or.inl ⟨fl_6_128, Or.inl rfl⟩) rfl ga1 gs2 rfl rfl ?_
  refine a_aload_n dX6_readFormula_126 rfl rfl ?_
  refine a_iload_n dX6_readFormula_127 rfl rfl ?_
  obtain ⟨v3, M4, e5, h⟩ := bnd2_t h
  obtain ⟨n6, en7, e5⟩ := cal_t e5
  refine e_callV (As := [.int x3]) (st := []) (a := a0) (ci := 6) false dX6_readFormula_128 mw_X6_buildFormula (Or.inl ⟨rfl, ml_X6_141⟩) im_X6_buildFormula se_X6_buildFormula (by decide) ga1 gs2 rfl (Nat.le_of_ble_eq_true rfl) en7 (s_X6_buildFormula e5) ?_
  exact a_iret dX6_readFormula_131 rfl (hR _ _ h)
set_option maxHeartbeats 4000000 in
set_option maxRecDepth 100000 in
noncomputable def st_X6_readFormula (n : Nat) (s : Sg) : Option (Sg ⊕ (Int32 × Mem)) := if s.1 = 0 then vR s.2.1 none (fun a0 t => vE t none (T_X6_readFormula_0 (fun c l M => some (.inl (c, l, M))) (fun v M => some (.inr (v, M))) none n a0 s.2.2)) else if s.1 = 6 then vR s.2.1 none (fun a0 t => vI t none (fun x1 t => vI t none (fun x2 t => vI t none (fun x3 t => vE t none (T_X6_readFormula_6 (fun c l M => some (.inl (c, l, M))) (fun v M => some (.inr (v, M))) none n a0 x1 x2 x3 s.2.2))))) else if s.1 = 114 then vR s.2.1 none (fun a0 t => vI t none (fun x2 t => vI t none (fun x3 t => vE t none (T_X6_readFormula_114 (fun c l M => some (.inl (c, l, M))) (fun v M => some (.inr (v, M))) none n a0 x2 x3 s.2.2)))) else none
noncomputable abbrev g_X6_readFormula_0 (n : Nat) (a0 : Nat) (M : Mem) : Option (Int32 × Mem) := lp (st_X6_readFormula n) (0, [.ref a0], M)
set_option maxHeartbeats 4000000 in
set_option maxRecDepth 100000 in
theorem ge_X6_readFormula_0 (n : Nat) (a0 : Nat) (M : Mem) : g_X6_readFormula_0 n a0 M = T_X6_readFormula_0 (fun c l M => lp (st_X6_readFormula n) (c, l, M)) (fun v M => some (v, M)) none n a0 M := (lp_eq _ _).trans (n_X6_readFormula_0 (lpK (st_X6_readFormula n)) (fun c l M => some (.inl (c, l, M))) (fun v M => some (.inr (v, M))) none n a0 M)
noncomputable abbrev g_X6_readFormula_6 (n : Nat) (a0 : Nat) (x1 : Int32) (x2 : Int32) (x3 : Int32) (M : Mem) : Option (Int32 × Mem) := lp (st_X6_readFormula n) (6, [.ref a0, .int x1, .int x2, .int x3], M)
set_option maxHeartbeats 4000000 in
set_option maxRecDepth 100000 in
theorem ge_X6_readFormula_6 (n : Nat) (a0 : Nat) (x1 : Int32) (x2 : Int32) (x3 : Int32) (M : Mem) : g_X6_readFormula_6 n a0 x1 x2 x3 M = T_X6_readFormula_6 (fun c l M => lp (st_X6_readFormula n) (c, l, M)) (fun v M => some (v, M)) none n a0 x1 x2 x3 M := (lp_eq _ _).trans (n_X6_readFormula_6 (lpK (st_X6_readFormula n)) (fun c l M => some (.inl (c, l, M))) (fun v M => some (.inr (v, M))) none n a0 x1 x2 x3 M)
noncomputable abbrev g_X6_readFormula_114 (n : Nat) (a0 : Nat) (x2 : Int32) (x3 : Int32) (M : Mem) : Option (Int32 × Mem) := lp (st_X6_readFormula n) (114, [.ref a0, .int x2, .int x3], M)
set_option maxHeartbeats 4000000 in
set_option maxRecDepth 100000 in
theorem ge_X6_readFormula_114 (n : Nat) (a0 : Nat) (x2 : Int32) (x3 : Int32) (M : Mem) : g_X6_readFormula_114 n a0 x2 x3 M = T_X6_readFormula_114 (fun c l M => lp (st_X6_readFormula n) (c, l, M)) (fun v M => some (v, M)) none n a0 x2 x3 M := (lp_eq _ _).trans (n_X6_readFormula_114 (lpK (st_X6_readFormula n)) (fun c l M => some (.inl (c, l, M))) (fun v M => some (.inr (v, M))) none n a0 x2 x3 M)
noncomputable def b_X6_readFormula (n : Nat) (a0 : Nat) (M : Mem) : Option (Int32 × Mem) := g_X6_readFormula_0 n a0 M
set_option maxHeartbeats 4000000 in
set_option maxRecDepth 100000 in
theorem sb_X6_readFormula {X : Nat × (Nat → Int32)} {al : Bool} {n : Nat} {a0 : Nat} {M : Mem} {v : Int32} {M1 : Mem} (h : b_X6_readFormula n a0 M = some (v, M1)) : AE yX6_readFormula cX6_readFormula 4 (some .int) al n X [.ref a0] M (some (.int v)) M1 := by
  refine AM.of false (by decide +kernel) (by intro h; cases h) (Nat.le_of_ble_eq_true rfl) ?_
  refine lp_snd (P := fun s r => PW_X6_readFormula X al n (fun v M2 => v = (some (.int r.1)) ∧ M2 = r.2) s.1 s.2.1 s.2.2) ?_ h
  clear h
  rintro ⟨c, l, M⟩ r h
  unfold st_X6_readFormula at h
  rcases ite_p h with ⟨e, h⟩ | ⟨e, h⟩
  · replace e : c = 0 := e
    subst e
    obtain ⟨a0, tt0, e, h⟩ := vR_p id h
    replace e : l = _ := e
    subst e
    obtain ⟨e, h⟩ := vE_p id h
    replace e : tt0 = [] := e
    subst e
    exact w_X6_readFormula_0 (J := fun c l M => PW_X6_readFormula X al n (fun v M2 => v = (some (.int r.1)) ∧ M2 = r.2) c l M) (R := fun v M => (v, M) = r) (fun _ _ _ h => h) (fun v M h => by cases h; exact ⟨rfl, rfl⟩) ((n_X6_readFormula_0 (lpP (fun (s : Sg) (r : Int32 × Mem) => PW_X6_readFormula X al n (fun v M2 => v = (some (.int r.1)) ∧ M2 = r.2) s.1 s.2.1 s.2.2) r) (fun c l M => some (.inl (c, l, M))) (fun v M => some (.inr (v, M))) none n a0 M).mp h)
  rcases ite_p h with ⟨e, h⟩ | ⟨e, h⟩
  · replace e : c = 6 := e
    subst e
    obtain ⟨a0, tt0, e, h⟩ := vR_p id h
    replace e : l = _ := e
    subst e
    obtain ⟨x1, tt1, e, h⟩ := vI_p id h
    replace e : tt0 = _ := e
    subst e
    obtain ⟨x2, tt2, e, h⟩ := vI_p id h
    replace e : tt1 = _ := e
    subst e
    obtain ⟨x3, tt3, e, h⟩ := vI_p id h
    replace e : tt2 = _ := e
    subst e
    obtain ⟨e, h⟩ := vE_p id h
    replace e : tt3 = [] := e
    subst e
    exact w_X6_readFormula_6 (J := fun c l M => PW_X6_readFormula X al n (fun v M2 => v = (some (.int r.1)) ∧ M2 = r.2) c l M) (R := fun v M => (v, M) = r) (fun _ _ _ h => h) (fun v M h => by cases h; exact ⟨rfl, rfl⟩) ((n_X6_readFormula_6 (lpP (fun (s : Sg) (r : Int32 × Mem) => PW_X6_readFormula X al n (fun v M2 => v = (some (.int r.1)) ∧ M2 = r.2) s.1 s.2.1 s.2.2) r) (fun c l M => some (.inl (c, l, M))) (fun v M => some (.inr (v, M))) none n a0 x1 x2 x3 M).mp h)
  rcases ite_p h with ⟨e, h⟩ | ⟨e, h⟩
  · replace e : c = 114 := e
    subst e
    obtain ⟨a0, tt0, e, h⟩ := vR_p id h
    replace e : l = _ := e
    subst e
    obtain ⟨x2, tt1, e, h⟩ := vI_p id h
    replace e : tt0 = _ := e
    subst e
    obtain ⟨x3, tt2, e, h⟩ := vI_p id h
    replace e : tt1 = _ := e
    subst e
    obtain ⟨e, h⟩ := vE_p id h
    replace e : tt2 = [] := e
    subst e
    exact w_X6_readFormula_114 (J := fun c l M => PW_X6_readFormula X al n (fun v M2 => v = (some (.int r.1)) ∧ M2 = r.2) c l M) (R := fun v M => (v, M) = r) (fun _ _ _ h => h) (fun v M h => by cases h; exact ⟨rfl, rfl⟩) ((n_X6_readFormula_114 (lpP (fun (s : Sg) (r : Int32 × Mem) => PW_X6_readFormula X al n (fun v M2 => v = (some (.int r.1)) ∧ M2 = r.2) s.1 s.2.1 s.2.2) r) (fun c l M => some (.inl (c, l, M))) (fun v M => some (.inr (v, M))) none n a0 x2 x3 M).mp h)
  · exact h.elim

noncomputable abbrev f_X6_readFormula := b_X6_readFormula
theorem s_X6_readFormula {X : Nat × (Nat → Int32)} {al : Bool} {n : Nat} {a0 : Nat} {M : Mem} {v : Int32} {M1 : Mem} (h : f_X6_readFormula n a0 M = some (v, M1)) : AE yX6_readFormula cX6_readFormula 4 (some .int) al n X [.ref a0] M (some (.int v)) M1 := sb_X6_readFormula h
set_option maxHeartbeats 4000000 in
set_option maxRecDepth 100000 in
noncomputable def T_X2_add_0.{u} {α : Sort u} (R : Unit → Mem → α) (N : α) (n : Nat) (a0 : Nat) (x1 : Int32) (x2 : Int32) (x3 : Int32) (M : Mem) : α := gd (fO M a0 2) N (if 6 ≤ (M.2.2.1 a0 3) then R () M else bnd (M.2.2.2.2 a0 0) N (fun r4 => gd (fA M r4 1 (M.2.2.1 a0 3)) N (bnd (M.2.2.2.2 a0 1) N (fun r10 => gd (fA M r10 1 ((wI M r4 ((M.2.2.1 a0 3).toNatClampNeg) x1).2.2.1 a0 3)) N (bnd (M.2.2.2.2 a0 2) N (fun r16 => gd (fA M r16 1 ((wI (wI M r4 ((M.2.2.1 a0 3).toNatClampNeg) x1) r10 (((wI M r4 ((M.2.2.1 a0 3).toNatClampNeg) x1).2.2.1 a0 3).toNatClampNeg) x2).2.2.1 a0 3)) N (R () (wI (wI (wI (wI M r4 ((M.2.2.1 a0 3).toNatClampNeg) x1) r10 (((wI M r4 ((M.2.2.1 a0 3).toNatClampNeg) x1).2.2.1 a0 3).toNatClampNeg) x2) r16 (((wI (wI M r4 ((M.2.2.1 a0 3).toNatClampNeg) x1) r10 (((wI M r4 ((M.2.2.1 a0 3).toNatClampNeg) x1).2.2.1 a0 3).toNatClampNeg) x2).2.2.1 a0 3).toNatClampNeg) x3) a0 3 (((wI (wI (wI M r4 ((M.2.2.1 a0 3).toNatClampNeg) x1) r10 (((wI M r4 ((M.2.2.1 a0 3).toNatClampNeg) x1).2.2.1 a0 3).toNatClampNeg) x2) r16 (((wI (wI M r4 ((M.2.2.1 a0 3).toNatClampNeg) x1) r10 (((wI M r4 ((M.2.2.1 a0 3).toNatClampNeg) x1).2.2.1 a0 3).toNatClampNeg) x2).2.2.1 a0 3).toNatClampNeg) x3).2.2.1 a0 3) + 1)))))))))
set_option maxHeartbeats 4000000 in
set_option maxRecDepth 100000 in
theorem n_X2_add_0.{u, v} {α : Sort u} {β : Sort v} (h : α → β) (R : Unit → Mem → α) (N : α) (n : Nat) (a0 : Nat) (x1 : Int32) (x2 : Int32) (x3 : Int32) (M : Mem) : h (T_X2_add_0 R N n a0 x1 x2 x3 M) = T_X2_add_0 (fun v M => h (R v M)) (h N) n a0 x1 x2 x3 M := by
  simp only [T_X2_add_0, nat_ite h, nat_gd h, nat_bnd h, nat_bnd2 h]
set_option maxHeartbeats 4000000 in
set_option maxRecDepth 100000 in
theorem w_X2_add_0 {X : Nat × (Nat → Int32)} {al : Bool} {n : Nat} {Q : Option Value → Mem → Prop} {R : Unit → Mem → Prop} (hR : ∀ v M, R v M → Q none M) {a0 : Nat} {x1 : Int32} {x2 : Int32} {x3 : Int32} {M : Mem} (h : T_X2_add_0 R False n a0 x1 x2 x3 M) : AW X (RX2, cX2_add, 4, none, false, al, n) 0 0 0 [(0, .ref a0), (1, .int x1), (2, .int x2), (3, .int x3)] [] M Q := by
  unfold T_X2_add_0 at h
  refine a_aload_n dX2_add_0 rfl rfl ?_
  obtain ⟨⟨ga1, gs2⟩, h⟩ := gd_t h
  refine a_get (v := .int (M.2.2.1 a0 3)) dX2_add_1 fl_2_21 ga1 gs2 rfl ?_
  refine a_bipush (v := 6) dX2_add_4 (by decide) ?_
  refine a_icmp_ge 49 dX2_add_6 (by decide) (fun c3 => ?_) (fun c3 => ?_)
  · replace h := ite_t c3 h
    exact a_vret dX2_add_49 rfl (hR _ _ h)
  · replace h := ite_f c3 h
    refine a_aload_n dX2_add_9 rfl rfl ?_
    obtain ⟨r4, e5, h⟩ := bnd_t h
    refine a_get (v := .ref r4) dX2_add_10 fl_2_9 ga1 gs2 (gvR e5 rfl) ?_
    refine a_aload_n dX2_add_13 rfl rfl ?_
    refine a_get (v := .int (M.2.2.1 a0 3)) dX2_add_14 fl_2_21 ga1 gs2 rfl ?_
    refine a_iload_n dX2_add_17 rfl rfl ?_
    obtain ⟨⟨ga6, gn7, gs8, gi9⟩, h⟩ := gd_t h
    refine a_iastore dX2_add_18 ga6 gs8 gi9 ?_
    refine a_aload_n dX2_add_19 rfl rfl ?_
    obtain ⟨r10, e11, h⟩ := bnd_t h
    refine a_get (v := .ref r10) dX2_add_20 fl_2_15 ga1 gs2 (gvR e11 rfl) ?_
    refine a_aload_n dX2_add_23 rfl rfl ?_
    refine a_get (v := .int ((wI M r4 ((M.2.2.1 a0 3).toNatClampNeg) x1).2.2.1 a0 3)) dX2_add_24 fl_2_21 ga1 gs2 rfl ?_
    refine a_iload_n dX2_add_27 rfl rfl ?_
    obtain ⟨⟨ga12, gn13, gs14, gi15⟩, h⟩ := gd_t h
    refine a_iastore dX2_add_28 ga12 gs14 gi15 ?_
    refine a_aload_n dX2_add_29 rfl rfl ?_
    obtain ⟨r16, e17, h⟩ := bnd_t h
    refine a_get (v := .ref r16) dX2_add_30 fl_2_18 ga1 gs2 (gvR e17 rfl) ?_
    refine a_aload_n dX2_add_33 rfl rfl ?_
    refine a_get (v := .int ((wI (wI M r4 ((M.2.2.1 a0 3).toNatClampNeg) x1) r10 (((wI M r4 ((M.2.2.1 a0 3).toNatClampNeg) x1).2.2.1 a0 3).toNatClampNeg) x2).2.2.1 a0 3)) dX2_add_34 fl_2_21 ga1 gs2 rfl ?_
    refine a_iload_n dX2_add_37 rfl rfl ?_
    obtain ⟨⟨ga18, gn19, gs20, gi21⟩, h⟩ := gd_t h
    refine a_iastore dX2_add_38 ga18 gs20 gi21 ?_
    refine a_aload_n dX2_add_39 rfl rfl ?_
    refine a_dup dX2_add_40 rfl ?_
    refine a_get (v := .int ((wI (wI (wI M r4 ((M.2.2.1 a0 3).toNatClampNeg) x1) r10 (((wI M r4 ((M.2.2.1 a0 3).toNatClampNeg) x1).2.2.1 a0 3).toNatClampNeg) x2) r16 (((wI (wI M r4 ((M.2.2.1 a0 3).toNatClampNeg) x1) r10 (((wI M r4 ((M.2.2.1 a0 3).toNatClampNeg) x1).2.2.1 a0 3).toNatClampNeg) x2).2.2.1 a0 3).toNatClampNeg) x3).2.2.1 a0 3)) dX2_add_41 fl_2_21 ga1 gs2 rfl ?_
    refine a_iconst (v := 1) dX2_add_44 (by decide) ?_
    refine a_iadd dX2_add_45 ?_
    refine a_putI dX2_add_46 (Or.inl ⟨fl_2_21, Or.inl rfl⟩) rfl ga1 gs2 rfl rfl ?_
    exact a_vret dX2_add_49 rfl (hR _ _ h)
noncomputable def b_X2_add (n : Nat) (a0 : Nat) (x1 : Int32) (x2 : Int32) (x3 : Int32) (M : Mem) : Option (Unit × Mem) := T_X2_add_0 (fun v M => some (v, M)) none n a0 x1 x2 x3 M
set_option maxHeartbeats 4000000 in
set_option maxRecDepth 100000 in
theorem sb_X2_add {X : Nat × (Nat → Int32)} {al : Bool} {n : Nat} {a0 : Nat} {x1 : Int32} {x2 : Int32} {x3 : Int32} {M : Mem} {v : Unit} {M1 : Mem} (h : b_X2_add n a0 x1 x2 x3 M = some (v, M1)) : AE yX2_add cX2_add 4 none al n X [.ref a0, .int x1, .int x2, .int x3] M none M1 := by
  refine AM.of false (by decide +kernel) (by intro h; cases h) (Nat.le_of_ble_eq_true rfl) ?_
  have h2 : T_X2_add_0 (fun v2 M2 => some (v2, M2) = some (v, M1)) (none = some (v, M1)) n a0 x1 x2 x3 M := (n_X2_add_0 (fun o => o = some (v, M1)) (fun v M => some (v, M)) none n a0 x1 x2 x3 M).mp h
  have h3 : ((none : Option (Unit × Mem)) = some (v, M1)) = False := eq_false (by intro q; cases q)
  rw [h3] at h2
  exact w_X2_add_0 (fun v2 M2 h => by cases h; exact ⟨rfl, rfl⟩) h2

noncomputable abbrev f_X2_add := b_X2_add
theorem s_X2_add {X : Nat × (Nat → Int32)} {al : Bool} {n : Nat} {a0 : Nat} {x1 : Int32} {x2 : Int32} {x3 : Int32} {M : Mem} {v : Unit} {M1 : Mem} (h : f_X2_add n a0 x1 x2 x3 M = some (v, M1)) : AE yX2_add cX2_add 4 none al n X [.ref a0, .int x1, .int x2, .int x3] M none M1 := sb_X2_add h
def ix_X6_readHypothesis (c : Nat) : List Nat := if c = 0 then [0] else if c = 45 then [0, 1] else []
def PW_X6_readHypothesis (X : Nat × (Nat → Int32)) (al : Bool) (n : Nat) (Q : Option Value → Mem → Prop) (c : Nat) (l : List Value) (M : Mem) : Prop := AW X (RX6, cX6_readHypothesis, 4, (some .boolean), false, al, n) 0 0 c (List.zip (ix_X6_readHypothesis c) l) (l.drop (ix_X6_readHypothesis c).length) M Q
set_option maxHeartbeats 4000000 in
set_option maxRecDepth 100000 in
noncomputable def T_X6_readHypothesis_0.{u} {α : Sort u} (J : Nat → List Value → Mem → α) (R : Int32 → Mem → α) (N : α) (n : Nat) (a0 : Nat) (M : Mem) : α := gd (fO M a0 6) N (bnd2 (cal n (fun n => f_X6_atName n a0 M)) N (fun v3 M4 => if v3 = 0 then gd (fO M4 a0 6) N (bnd2 (cal n (fun n => f_X6_fail n a0 1 (M4.2.2.1 a0 12) M4)) N (fun v32 M33 => gd (narrow .boolean (.int v32) = .int v32) N (R v32 M33))) else gd (fO M4 a0 6) N (bnd2 (cal n (fun n => f_X6_nameRead n a0 M4)) N (fun v11 M12 => bnd2 (cal n (fun n => f_X10_nameLetter n v11 0 M12)) N (fun v16 M17 => if v16 = 120 then gd (fO M17 a0 6) N (bnd2 (cal n (fun n => f_X6_wordLetters n a0 M17)) N (fun v24 M25 => if v24 ≤ 1 then J 45 [.ref a0, .int v11, .int 0] M25 else J 45 [.ref a0, .int v11, .int 1] M25)) else J 45 [.ref a0, .int v11, .int 0] M17)))))
set_option maxHeartbeats 4000000 in
set_option maxRecDepth 100000 in
theorem n_X6_readHypothesis_0.{u, v} {α : Sort u} {β : Sort v} (h : α → β) (J : Nat → List Value → Mem → α) (R : Int32 → Mem → α) (N : α) (n : Nat) (a0 : Nat) (M : Mem) : h (T_X6_readHypothesis_0 J R N n a0 M) = T_X6_readHypothesis_0 (fun c l M => h (J c l M)) (fun v M => h (R v M)) (h N) n a0 M := by
  simp only [T_X6_readHypothesis_0, nat_ite h, nat_gd h, nat_bnd h, nat_bnd2 h]
set_option maxHeartbeats 4000000 in
set_option maxRecDepth 100000 in
theorem w_X6_readHypothesis_0 {X : Nat × (Nat → Int32)} {al : Bool} {n : Nat} {Q : Option Value → Mem → Prop} {J : Nat → List Value → Mem → Prop} (hJ : ∀ c l M, J c l M → PW_X6_readHypothesis X al n Q c l M) {R : Int32 → Mem → Prop} (hR : ∀ v M, R v M → Q (some (.int v)) M) {a0 : Nat} {M : Mem} (h : T_X6_readHypothesis_0 J R False n a0 M) : AW X (RX6, cX6_readHypothesis, 4, (some .boolean), false, al, n) 0 0 0 [(0, .ref a0)] [] M Q := by
  unfold T_X6_readHypothesis_0 at h
  refine a_aload_n dX6_readHypothesis_0 rfl rfl ?_
  obtain ⟨⟨ga1, gs2⟩, h⟩ := gd_t h
  obtain ⟨v3, M4, e5, h⟩ := bnd2_t h
  obtain ⟨n6, en7, e5⟩ := cal_t e5
  refine e_callV (As := []) (st := []) (a := a0) (ci := 6) false dX6_readHypothesis_1 mw_X6_atName (Or.inl ⟨rfl, ml_X6_104⟩) im_X6_atName se_X6_atName (by decide) ga1 gs2 rfl (Nat.le_of_ble_eq_true rfl) en7 (s_X6_atName e5) ?_
  refine a_if_ne 17 dX6_readHypothesis_4 (by decide) (fun c8 => ?_) (fun c8 => ?_)
  · replace h := ite_f c8 h
    refine a_aload_n dX6_readHypothesis_17 rfl rfl ?_
    obtain ⟨⟨ga9, gs10⟩, h⟩ := gd_t h
    obtain ⟨v11, M12, e13, h⟩ := bnd2_t h
    obtain ⟨n14, en15, e13⟩ := cal_t e13
    refine e_callV (As := []) (st := []) (a := a0) (ci := 6) false dX6_readHypothesis_18 mw_X6_nameRead (Or.inl ⟨rfl, ml_X6_111⟩) im_X6_nameRead se_X6_nameRead (by decide) ga9 gs10 rfl (Nat.le_of_ble_eq_true rfl) en15 (s_X6_nameRead e13) ?_
    refine a_istore_n dX6_readHypothesis_21 rfl (Nat.le_of_ble_eq_true rfl) (lv2 := [(1, .int v11), (0, .ref a0)]) rfl ?_
    refine a_iload_n dX6_readHypothesis_22 rfl rfl ?_
    refine a_iconst (v := 0) dX6_readHypothesis_23 (by decide) ?_
    obtain ⟨v16, M17, e18, h⟩ := bnd2_t h
    obtain ⟨n19, en20, e18⟩ := cal_t e18
    refine e_callS (As := [.int v11, .int 0]) (st := []) true dX6_readHypothesis_24 mw_X10_nameLetter (Or.inr ⟨rfl, mn_X6_114⟩) sm_X10_nameLetter rfl (Nat.le_of_ble_eq_true rfl) en20 (s_X10_nameLetter e18) ?_
    refine a_bipush (v := 120) dX6_readHypothesis_27 (by decide) ?_
    refine a_icmp_ne 44 dX6_readHypothesis_29 (by decide) (fun c21 => ?_) (fun c21 => ?_)
    · replace h := ite_f c21 h
      refine a_iconst (v := 0) dX6_readHypothesis_44 (by decide) ?_
      exact a_lv (lv2 := [(0, .ref a0), (1, .int v11)]) (fa_cons rfl (fa_cons rfl fa_nil)) (hJ _ _ _ h)
    · replace h := ite_t c21 h
      refine a_aload_n dX6_readHypothesis_32 rfl rfl ?_
      obtain ⟨⟨ga22, gs23⟩, h⟩ := gd_t h
      obtain ⟨v24, M25, e26, h⟩ := bnd2_t h
      obtain ⟨n27, en28, e26⟩ := cal_t e26
      refine e_callV (As := []) (st := []) (a := a0) (ci := 6) false dX6_readHypothesis_33 mw_X6_wordLetters (Or.inl ⟨rfl, ml_X6_86⟩) im_X6_wordLetters se_X6_wordLetters (by decide) ga22 gs23 rfl (Nat.le_of_ble_eq_true rfl) en28 (s_X6_wordLetters e26) ?_
      refine a_iconst (v := 1) dX6_readHypothesis_36 (by decide) ?_
      refine a_icmp_le 44 dX6_readHypothesis_37 (by decide) (fun c29 => ?_) (fun c29 => ?_)
      · replace h := ite_t c29 h
        refine a_iconst (v := 0) dX6_readHypothesis_44 (by decide) ?_
        exact a_lv (lv2 := [(0, .ref a0), (1, .int v11)]) (fa_cons rfl (fa_cons rfl fa_nil)) (hJ _ _ _ h)
      · replace h := ite_f c29 h
        refine a_iconst (v := 1) dX6_readHypothesis_40 (by decide) ?_
        refine a_goto 45 dX6_readHypothesis_41 (by decide) ?_
        exact a_lv (lv2 := [(0, .ref a0), (1, .int v11)]) (fa_cons rfl (fa_cons rfl fa_nil)) (hJ _ _ _ h)
  · replace h := ite_t c8 h
    refine a_aload_n dX6_readHypothesis_7 rfl rfl ?_
    refine a_iconst (v := 1) dX6_readHypothesis_8 (by decide) ?_
    refine a_aload_n dX6_readHypothesis_9 rfl rfl ?_
    obtain ⟨⟨ga30, gs31⟩, h⟩ := gd_t h
    refine a_get (v := .int (M4.2.2.1 a0 12)) dX6_readHypothesis_10 fl_6_68 ga30 gs31 rfl ?_
    obtain ⟨v32, M33, e34, h⟩ := bnd2_t h
    obtain ⟨n35, en36, e34⟩ := cal_t e34
    refine e_callV (As := [.int 1, .int (M4.2.2.1 a0 12)]) (st := []) (a := a0) (ci := 6) false dX6_readHypothesis_13 mw_X6_fail (Or.inl ⟨rfl, ml_X6_107⟩) im_X6_fail se_X6_fail (by decide) ga30 gs31 rfl (Nat.le_of_ble_eq_true rfl) en36 (s_X6_fail e34) ?_
    obtain ⟨gb37, h⟩ := gd_t h
    exact a_zret dX6_readHypothesis_16 rfl gb37 (hR _ _ h)
set_option maxHeartbeats 4000000 in
set_option maxRecDepth 100000 in
noncomputable def T_X6_readHypothesis_45.{u} {α : Sort u} (J : Nat → List Value → Mem → α) (R : Int32 → Mem → α) (N : α) (n : Nat) (a0 : Nat) (x1 : Int32) (xs0 : Int32) (M : Mem) : α := if xs0 = 0 then gd (fO M a0 6) N (bnd (M.2.2.2.2 a0 3) N (fun r12 => gd (fO M r12 2) N (bnd2 (cal n (fun n => f_X2_find n r12 x1 M)) N (fun v16 M17 => if v16 = (-1) then gd (fO M17 a0 6) N (bnd (M17.2.2.2.2 a0 3) N (fun r24 => gd (fO M17 r24 2) N (bnd2 (cal n (fun n => f_X2_isFull n r24 M17)) N (fun v28 M29 => if v28 = 0 then gd (fO M29 a0 6) N (bnd2 (cal n (fun n => f_X6_readFormula n a0 M29)) N (fun v36 M37 => if v36 = (-1) then R 0 M37 else gd (fO M37 a0 6) N (bnd2 (cal n (fun n => f_X6_advance n a0 M37)) N (fun _ M44 => gd (fO M44 a0 6) N (if (M44.2.2.1 a0 13) = (-2) then if (lg_cmp (M44.2.2.2.1 a0 14) (59)) = 0 then bnd (M44.2.2.2.2 a0 3) N (fun r58 => gd (fO M44 r58 2) N (bnd2 (cal n (fun n => f_X2_add n r58 x1 v36 (M44.2.2.1 a0 16) M44)) N (fun _ M62 => R 1 M62))) else bnd2 (cal n (fun n => f_X6_fail n a0 1 (M44.2.2.1 a0 12) M44)) N (fun v66 M67 => gd (narrow .boolean (.int v66) = .int v66) N (R v66 M67)) else bnd2 (cal n (fun n => f_X6_fail n a0 1 (M44.2.2.1 a0 12) M44)) N (fun v51 M52 => gd (narrow .boolean (.int v51) = .int v51) N (R v51 M52))))))) else gd (fO M29 a0 6) N (bnd2 (cal n (fun n => f_X6_fail n a0 4 (M29.2.2.1 a0 12) M29)) N (fun v74 M75 => gd (narrow .boolean (.int v74) = .int v74) N (R v74 M75))))))) else gd (fO M17 a0 6) N (bnd2 (cal n (fun n => f_X6_fail n a0 2 (M17.2.2.1 a0 12) M17)) N (fun v82 M83 => gd (narrow .boolean (.int v82) = .int v82) N (R v82 M83))))))) else gd (fO M a0 6) N (bnd2 (cal n (fun n => f_X6_fail n a0 2 (M.2.2.1 a0 12) M)) N (fun v4 M5 => gd (narrow .boolean (.int v4) = .int v4) N (R v4 M5)))
set_option maxHeartbeats 4000000 in
set_option maxRecDepth 100000 in
theorem n_X6_readHypothesis_45.{u, v} {α : Sort u} {β : Sort v} (h : α → β) (J : Nat → List Value → Mem → α) (R : Int32 → Mem → α) (N : α) (n : Nat) (a0 : Nat) (x1 : Int32) (xs0 : Int32) (M : Mem) : h (T_X6_readHypothesis_45 J R N n a0 x1 xs0 M) = T_X6_readHypothesis_45 (fun c l M => h (J c l M)) (fun v M => h (R v M)) (h N) n a0 x1 xs0 M := by
  simp only [T_X6_readHypothesis_45, nat_ite h, nat_gd h, nat_bnd h, nat_bnd2 h]
set_option maxHeartbeats 4000000 in
set_option maxRecDepth 100000 in
theorem w_X6_readHypothesis_45 {X : Nat × (Nat → Int32)} {al : Bool} {n : Nat} {Q : Option Value → Mem → Prop} {J : Nat → List Value → Mem → Prop} (hJ : ∀ c l M, J c l M → PW_X6_readHypothesis X al n Q c l M) {R : Int32 → Mem → Prop} (hR : ∀ v M, R v M → Q (some (.int v)) M) {a0 : Nat} {x1 : Int32} {xs0 : Int32} {M : Mem} (h : T_X6_readHypothesis_45 J R False n a0 x1 xs0 M) : AW X (RX6, cX6_readHypothesis, 4, (some .boolean), false, al, n) 0 0 45 [(0, .ref a0), (1, .int x1)] [.int xs0] M Q := by
  unfold T_X6_readHypothesis_45 at h
  refine a_istore_n dX6_readHypothesis_45 rfl (Nat.le_of_ble_eq_true rfl) (lv2 := [(2, .int xs0), (0, .ref a0), (1, .int x1)]) rfl ?_
  refine a_iload_n dX6_readHypothesis_46 rfl rfl ?_
  refine a_if_ne 62 dX6_readHypothesis_47 (by decide) (fun c1 => ?_) (fun c1 => ?_)
  · replace h := ite_f c1 h
    refine a_aload_n dX6_readHypothesis_62 rfl rfl ?_
    refine a_iconst (v := 2) dX6_readHypothesis_63 (by decide) ?_
    refine a_aload_n dX6_readHypothesis_64 rfl rfl ?_
    obtain ⟨⟨ga2, gs3⟩, h⟩ := gd_t h
    refine a_get (v := .int (M.2.2.1 a0 12)) dX6_readHypothesis_65 fl_6_68 ga2 gs3 rfl ?_
    obtain ⟨v4, M5, e6, h⟩ := bnd2_t h
    obtain ⟨n7, en8, e6⟩ := cal_t e6
    refine e_callV (As := [.int 2, .int (M.2.2.1 a0 12)]) (st := []) (a := a0) (ci := 6) false dX6_readHypothesis_68 mw_X6_fail (Or.inl ⟨rfl, ml_X6_107⟩) im_X6_fail se_X6_fail (by decide) ga2 gs3 rfl (Nat.le_of_ble_eq_true rfl) en8 (s_X6_fail e6) ?_
    obtain ⟨gb9, h⟩ := gd_t h
    exact a_zret dX6_readHypothesis_71 rfl gb9 (hR _ _ h)
  · replace h := ite_t c1 h
    refine a_aload_n dX6_readHypothesis_50 rfl rfl ?_
    obtain ⟨⟨ga10, gs11⟩, h⟩ := gd_t h
    obtain ⟨r12, e13, h⟩ := bnd_t h
    refine a_get (v := .ref r12) dX6_readHypothesis_51 fl_6_18 ga10 gs11 (gvR e13 rfl) ?_
    refine a_iload_n dX6_readHypothesis_54 rfl rfl ?_
    obtain ⟨⟨ga14, gs15⟩, h⟩ := gd_t h
    obtain ⟨v16, M17, e18, h⟩ := bnd2_t h
    obtain ⟨n19, en20, e18⟩ := cal_t e18
    refine e_callV (As := [.int x1]) (st := []) (a := r12) (ci := 2) false dX6_readHypothesis_55 mw_X2_find (Or.inl ⟨rfl, ml_X6_117⟩) im_X2_find se_X2_find (by decide) ga14 gs15 rfl (Nat.le_of_ble_eq_true rfl) en20 (s_X2_find e18) ?_
    refine a_iconst (v := -1) dX6_readHypothesis_58 (by decide) ?_
    refine a_icmp_eq 72 dX6_readHypothesis_59 (by decide) (fun c21 => ?_) (fun c21 => ?_)
    · replace h := ite_t c21 h
      refine a_aload_n dX6_readHypothesis_72 rfl rfl ?_
      obtain ⟨⟨ga22, gs23⟩, h⟩ := gd_t h
      obtain ⟨r24, e25, h⟩ := bnd_t h
      refine a_get (v := .ref r24) dX6_readHypothesis_73 fl_6_18 ga22 gs23 (gvR e25 rfl) ?_
      obtain ⟨⟨ga26, gs27⟩, h⟩ := gd_t h
      obtain ⟨v28, M29, e30, h⟩ := bnd2_t h
      obtain ⟨n31, en32, e30⟩ := cal_t e30
      refine e_callV (As := []) (st := []) (a := r24) (ci := 2) false dX6_readHypothesis_76 mw_X2_isFull (Or.inl ⟨rfl, ml_X6_120⟩) im_X2_isFull se_X2_isFull (by decide) ga26 gs27 rfl (Nat.le_of_ble_eq_true rfl) en32 (s_X2_isFull e30) ?_
      refine a_if_eq 92 dX6_readHypothesis_79 (by decide) (fun c33 => ?_) (fun c33 => ?_)
      · replace h := ite_t c33 h
        refine a_aload_n dX6_readHypothesis_92 rfl rfl ?_
        obtain ⟨⟨ga34, gs35⟩, h⟩ := gd_t h
        obtain ⟨v36, M37, e38, h⟩ := bnd2_t h
        obtain ⟨n39, en40, e38⟩ := cal_t e38
        refine e_callV (As := []) (st := []) (a := a0) (ci := 6) false dX6_readHypothesis_93 mw_X6_readFormula (Or.inl ⟨rfl, ml_X6_123⟩) im_X6_readFormula se_X6_readFormula (by decide) ga34 gs35 rfl (Nat.le_of_ble_eq_true rfl) en40 (s_X6_readFormula e38) ?_
        refine a_istore_n dX6_readHypothesis_96 rfl (Nat.le_of_ble_eq_true rfl) (lv2 := [(3, .int v36), (2, .int xs0), (0, .ref a0), (1, .int x1)]) rfl ?_
        refine a_iload_n dX6_readHypothesis_97 rfl rfl ?_
        refine a_iconst (v := -1) dX6_readHypothesis_98 (by decide) ?_
        refine a_icmp_ne 104 dX6_readHypothesis_99 (by decide) (fun c41 => ?_) (fun c41 => ?_)
        · replace h := ite_f c41 h
          refine a_aload_n dX6_readHypothesis_104 rfl rfl ?_
          obtain ⟨⟨ga42, gs43⟩, h⟩ := gd_t h
          obtain ⟨_, M44, e45, h⟩ := bnd2_t h
          obtain ⟨n46, en47, e45⟩ := cal_t e45
          refine e_callV (As := []) (st := []) (a := a0) (ci := 6) false dX6_readHypothesis_105 mw_X6_advance (Or.inl ⟨rfl, ml_X6_97⟩) im_X6_advance se_X6_advance (by decide) ga42 gs43 rfl (Nat.le_of_ble_eq_true rfl) en47 (s_X6_advance e45) ?_
          refine a_aload_n dX6_readHypothesis_108 rfl rfl ?_
          obtain ⟨⟨ga48, gs49⟩, h⟩ := gd_t h
          refine a_get (v := .int (M44.2.2.1 a0 13)) dX6_readHypothesis_109 fl_6_75 ga48 gs49 rfl ?_
          refine a_bipush (v := -2) dX6_readHypothesis_112 (by decide) ?_
          refine a_icmp_ne 128 dX6_readHypothesis_114 (by decide) (fun c50 => ?_) (fun c50 => ?_)
          · replace h := ite_f c50 h
            refine a_aload_n dX6_readHypothesis_128 rfl rfl ?_
            refine a_iconst (v := 1) dX6_readHypothesis_129 (by decide) ?_
            refine a_aload_n dX6_readHypothesis_130 rfl rfl ?_
            refine a_get (v := .int (M44.2.2.1 a0 12)) dX6_readHypothesis_131 fl_6_68 ga48 gs49 rfl ?_
            obtain ⟨v51, M52, e53, h⟩ := bnd2_t h
            obtain ⟨n54, en55, e53⟩ := cal_t e53
            refine e_callV (As := [.int 1, .int (M44.2.2.1 a0 12)]) (st := []) (a := a0) (ci := 6) false dX6_readHypothesis_134 mw_X6_fail (Or.inl ⟨rfl, ml_X6_107⟩) im_X6_fail se_X6_fail (by decide) ga48 gs49 rfl (Nat.le_of_ble_eq_true rfl) en55 (s_X6_fail e53) ?_
            obtain ⟨gb56, h⟩ := gd_t h
            exact a_zret dX6_readHypothesis_137 rfl gb56 (hR _ _ h)
          · replace h := ite_t c50 h
            refine a_aload_n dX6_readHypothesis_117 rfl rfl ?_
            refine a_get (v := .long (M44.2.2.2.1 a0 14)) dX6_readHypothesis_118 fl_6_71 ga48 gs49 rfl ?_
            refine a_ldc2 dX6_readHypothesis_121 co_X6_126 ?_
            refine a_lcmp dX6_readHypothesis_124 ?_
            refine a_if_eq 138 dX6_readHypothesis_125 (by decide) (fun c57 => ?_) (fun c57 => ?_)
            · replace h := ite_t c57 h
              refine a_aload_n dX6_readHypothesis_138 rfl rfl ?_
              obtain ⟨r58, e59, h⟩ := bnd_t h
              refine a_get (v := .ref r58) dX6_readHypothesis_139 fl_6_18 ga48 gs49 (gvR e59 rfl) ?_
              refine a_iload_n dX6_readHypothesis_142 rfl rfl ?_
              refine a_iload_n dX6_readHypothesis_143 rfl rfl ?_
              refine a_aload_n dX6_readHypothesis_144 rfl rfl ?_
              refine a_get (v := .int (M44.2.2.1 a0 16)) dX6_readHypothesis_145 fl_6_128 ga48 gs49 rfl ?_
              obtain ⟨⟨ga60, gs61⟩, h⟩ := gd_t h
              obtain ⟨_, M62, e63, h⟩ := bnd2_t h
              obtain ⟨n64, en65, e63⟩ := cal_t e63
              refine e_callV (As := [.int x1, .int v36, .int (M44.2.2.1 a0 16)]) (st := []) (a := r58) (ci := 2) false dX6_readHypothesis_148 mw_X2_add (Or.inl ⟨rfl, ml_X6_131⟩) im_X2_add se_X2_add (by decide) ga60 gs61 rfl (Nat.le_of_ble_eq_true rfl) en65 (s_X2_add e63) ?_
              refine a_iconst (v := 1) dX6_readHypothesis_151 (by decide) ?_
              exact a_zret dX6_readHypothesis_152 rfl rfl (hR _ _ h)
            · replace h := ite_f c57 h
              refine a_aload_n dX6_readHypothesis_128 rfl rfl ?_
              refine a_iconst (v := 1) dX6_readHypothesis_129 (by decide) ?_
              refine a_aload_n dX6_readHypothesis_130 rfl rfl ?_
              refine a_get (v := .int (M44.2.2.1 a0 12)) dX6_readHypothesis_131 fl_6_68 ga48 gs49 rfl ?_
              obtain ⟨v66, M67, e68, h⟩ := bnd2_t h
              obtain ⟨n69, en70, e68⟩ := cal_t e68
              refine e_callV (As := [.int 1, .int (M44.2.2.1 a0 12)]) (st := []) (a := a0) (ci := 6) false dX6_readHypothesis_134 mw_X6_fail (Or.inl ⟨rfl, ml_X6_107⟩) im_X6_fail se_X6_fail (by decide) ga48 gs49 rfl (Nat.le_of_ble_eq_true rfl) en70 (s_X6_fail e68) ?_
              obtain ⟨gb71, h⟩ := gd_t h
              exact a_zret dX6_readHypothesis_137 rfl gb71 (hR _ _ h)
        · replace h := ite_t c41 h
          refine a_iconst (v := 0) dX6_readHypothesis_102 (by decide) ?_
          exact a_zret dX6_readHypothesis_103 rfl rfl (hR _ _ h)
      · replace h := ite_f c33 h
        refine a_aload_n dX6_readHypothesis_82 rfl rfl ?_
        refine a_iconst (v := 4) dX6_readHypothesis_83 (by decide) ?_
        refine a_aload_n dX6_readHypothesis_84 rfl rfl ?_
        obtain ⟨⟨ga72, gs73⟩, h⟩ := gd_t h
        refine a_get (v := .int (M29.2.2.1 a0 12)) dX6_readHypothesis_85 fl_6_68 ga72 gs73 rfl ?_
        obtain ⟨v74, M75, e76, h⟩ := bnd2_t h
        obtain ⟨n77, en78, e76⟩ := cal_t e76
        refine e_callV (As := [.int 4, .int (M29.2.2.1 a0 12)]) (st := []) (a := a0) (ci := 6) false dX6_readHypothesis_88 mw_X6_fail (Or.inl ⟨rfl, ml_X6_107⟩) im_X6_fail se_X6_fail (by decide) ga72 gs73 rfl (Nat.le_of_ble_eq_true rfl) en78 (s_X6_fail e76) ?_
        obtain ⟨gb79, h⟩ := gd_t h
        exact a_zret dX6_readHypothesis_91 rfl gb79 (hR _ _ h)
    · replace h := ite_f c21 h
      refine a_aload_n dX6_readHypothesis_62 rfl rfl ?_
      refine a_iconst (v := 2) dX6_readHypothesis_63 (by decide) ?_
      refine a_aload_n dX6_readHypothesis_64 rfl rfl ?_
      obtain ⟨⟨ga80, gs81⟩, h⟩ := gd_t h
      refine a_get (v := .int (M17.2.2.1 a0 12)) dX6_readHypothesis_65 fl_6_68 ga80 gs81 rfl ?_
      obtain ⟨v82, M83, e84, h⟩ := bnd2_t h
      obtain ⟨n85, en86, e84⟩ := cal_t e84
      refine e_callV (As := [.int 2, .int (M17.2.2.1 a0 12)]) (st := []) (a := a0) (ci := 6) false dX6_readHypothesis_68 mw_X6_fail (Or.inl ⟨rfl, ml_X6_107⟩) im_X6_fail se_X6_fail (by decide) ga80 gs81 rfl (Nat.le_of_ble_eq_true rfl) en86 (s_X6_fail e84) ?_
      obtain ⟨gb87, h⟩ := gd_t h
      exact a_zret dX6_readHypothesis_71 rfl gb87 (hR _ _ h)
set_option maxHeartbeats 4000000 in
set_option maxRecDepth 100000 in
noncomputable def st_X6_readHypothesis (n : Nat) (s : Sg) : Option (Sg ⊕ (Int32 × Mem)) := if s.1 = 0 then vR s.2.1 none (fun a0 t => vE t none (T_X6_readHypothesis_0 (fun c l M => some (.inl (c, l, M))) (fun v M => some (.inr (v, M))) none n a0 s.2.2)) else if s.1 = 45 then vR s.2.1 none (fun a0 t => vI t none (fun x1 t => vI t none (fun xs0 t => vE t none (T_X6_readHypothesis_45 (fun c l M => some (.inl (c, l, M))) (fun v M => some (.inr (v, M))) none n a0 x1 xs0 s.2.2)))) else none
noncomputable abbrev g_X6_readHypothesis_0 (n : Nat) (a0 : Nat) (M : Mem) : Option (Int32 × Mem) := lp (st_X6_readHypothesis n) (0, [.ref a0], M)
set_option maxHeartbeats 4000000 in
set_option maxRecDepth 100000 in
theorem ge_X6_readHypothesis_0 (n : Nat) (a0 : Nat) (M : Mem) : g_X6_readHypothesis_0 n a0 M = T_X6_readHypothesis_0 (fun c l M => lp (st_X6_readHypothesis n) (c, l, M)) (fun v M => some (v, M)) none n a0 M := (lp_eq _ _).trans (n_X6_readHypothesis_0 (lpK (st_X6_readHypothesis n)) (fun c l M => some (.inl (c, l, M))) (fun v M => some (.inr (v, M))) none n a0 M)
noncomputable abbrev g_X6_readHypothesis_45 (n : Nat) (a0 : Nat) (x1 : Int32) (xs0 : Int32) (M : Mem) : Option (Int32 × Mem) := lp (st_X6_readHypothesis n) (45, [.ref a0, .int x1, .int xs0], M)
set_option maxHeartbeats 4000000 in
set_option maxRecDepth 100000 in
theorem ge_X6_readHypothesis_45 (n : Nat) (a0 : Nat) (x1 : Int32) (xs0 : Int32) (M : Mem) : g_X6_readHypothesis_45 n a0 x1 xs0 M = T_X6_readHypothesis_45 (fun c l M => lp (st_X6_readHypothesis n) (c, l, M)) (fun v M => some (v, M)) none n a0 x1 xs0 M := (lp_eq _ _).trans (n_X6_readHypothesis_45 (lpK (st_X6_readHypothesis n)) (fun c l M => some (.inl (c, l, M))) (fun v M => some (.inr (v, M))) none n a0 x1 xs0 M)
noncomputable def b_X6_readHypothesis (n : Nat) (a0 : Nat) (M : Mem) : Option (Int32 × Mem) := g_X6_readHypothesis_0 n a0 M
set_option maxHeartbeats 4000000 in
set_option maxRecDepth 100000 in
theorem sb_X6_readHypothesis {X : Nat × (Nat → Int32)} {al : Bool} {n : Nat} {a0 : Nat} {M : Mem} {v : Int32} {M1 : Mem} (h : b_X6_readHypothesis n a0 M = some (v, M1)) : AE yX6_readHypothesis cX6_readHypothesis 4 (some .boolean) al n X [.ref a0] M (some (.int v)) M1 := by
  refine AM.of false (by decide +kernel) (by intro h; cases h) (Nat.le_of_ble_eq_true rfl) ?_
  refine lp_snd (P := fun s r => PW_X6_readHypothesis X al n (fun v M2 => v = (some (.int r.1)) ∧ M2 = r.2) s.1 s.2.1 s.2.2) ?_ h
  clear h
  rintro ⟨c, l, M⟩ r h
  unfold st_X6_readHypothesis at h
  rcases ite_p h with ⟨e, h⟩ | ⟨e, h⟩
  · replace e : c = 0 := e
    subst e
    obtain ⟨a0, tt0, e, h⟩ := vR_p id h
    replace e : l = _ := e
    subst e
    obtain ⟨e, h⟩ := vE_p id h
    replace e : tt0 = [] := e
    subst e
    exact w_X6_readHypothesis_0 (J := fun c l M => PW_X6_readHypothesis X al n (fun v M2 => v = (some (.int r.1)) ∧ M2 = r.2) c l M) (R := fun v M => (v, M) = r) (fun _ _ _ h => h) (fun v M h => by cases h; exact ⟨rfl, rfl⟩) ((n_X6_readHypothesis_0 (lpP (fun (s : Sg) (r : Int32 × Mem) => PW_X6_readHypothesis X al n (fun v M2 => v = (some (.int r.1)) ∧ M2 = r.2) s.1 s.2.1 s.2.2) r) (fun c l M => some (.inl (c, l, M))) (fun v M => some (.inr (v, M))) none n a0 M).mp h)
  rcases ite_p h with ⟨e, h⟩ | ⟨e, h⟩
  · replace e : c = 45 := e
    subst e
    obtain ⟨a0, tt0, e, h⟩ := vR_p id h
    replace e : l = _ := e
    subst e
    obtain ⟨x1, tt1, e, h⟩ := vI_p id h
    replace e : tt0 = _ := e
    subst e
    obtain ⟨xs0, tt2, e, h⟩ := vI_p id h
    replace e : tt1 = _ := e
    subst e
    obtain ⟨e, h⟩ := vE_p id h
    replace e : tt2 = [] := e
    subst e
    exact w_X6_readHypothesis_45 (J := fun c l M => PW_X6_readHypothesis X al n (fun v M2 => v = (some (.int r.1)) ∧ M2 = r.2) c l M) (R := fun v M => (v, M) = r) (fun _ _ _ h => h) (fun v M h => by cases h; exact ⟨rfl, rfl⟩) ((n_X6_readHypothesis_45 (lpP (fun (s : Sg) (r : Int32 × Mem) => PW_X6_readHypothesis X al n (fun v M2 => v = (some (.int r.1)) ∧ M2 = r.2) s.1 s.2.1 s.2.2) r) (fun c l M => some (.inl (c, l, M))) (fun v M => some (.inr (v, M))) none n a0 x1 xs0 M).mp h)
  · exact h.elim

noncomputable abbrev f_X6_readHypothesis := b_X6_readHypothesis
theorem s_X6_readHypothesis {X : Nat × (Nat → Int32)} {al : Bool} {n : Nat} {a0 : Nat} {M : Mem} {v : Int32} {M1 : Mem} (h : f_X6_readHypothesis n a0 M = some (v, M1)) : AE yX6_readHypothesis cX6_readHypothesis 4 (some .boolean) al n X [.ref a0] M (some (.int v)) M1 := sb_X6_readHypothesis h
