/-! METHODS AS FUNCTIONS, written by wip/gen/shallow.py -/
def ix_X0_mattering (c : Nat) : List Nat := if c = 0 then [0, 1] else if c = 8 then [0, 1, 3, 5] else if c = 67 then [0, 1, 3, 5] else if c = 116 then [0, 3, 5] else []
def PW_X0_mattering (X : Nat × (Nat → Int32)) (al : Bool) (n : Nat) (Q : Option Value → Mem → Prop) (c : Nat) (l : List Value) (M : Mem) : Prop := AW X (RX0, cX0_mattering, 6, (some .long), false, al, n) 0 0 c (List.zip (ix_X0_mattering c) l) (l.drop (ix_X0_mattering c).length) M Q
set_option maxHeartbeats 4000000 in
set_option maxRecDepth 100000 in
noncomputable def T_X0_mattering_0.{u} {α : Sort u} (J : Nat → List Value → Mem → α) (R : Int64 → Mem → α) (N : α) (n : Nat) (a0 : Nat) (j1 : Int64) (M : Mem) : α := gd (fO M a0 0) N (J 8 [.ref a0, .long j1, .long (M.2.2.2.1 a0 8), .int 0] M)
set_option maxHeartbeats 4000000 in
set_option maxRecDepth 100000 in
theorem n_X0_mattering_0.{u, v} {α : Sort u} {β : Sort v} (h : α → β) (J : Nat → List Value → Mem → α) (R : Int64 → Mem → α) (N : α) (n : Nat) (a0 : Nat) (j1 : Int64) (M : Mem) : h (T_X0_mattering_0 J R N n a0 j1 M) = T_X0_mattering_0 (fun c l M => h (J c l M)) (fun v M => h (R v M)) (h N) n a0 j1 M := by
  simp only [T_X0_mattering_0, nat_ite h, nat_gd h, nat_bnd h, nat_bnd2 h]
set_option maxHeartbeats 4000000 in
set_option maxRecDepth 100000 in
theorem w_X0_mattering_0 {X : Nat × (Nat → Int32)} {al : Bool} {n : Nat} {Q : Option Value → Mem → Prop} {J : Nat → List Value → Mem → Prop} (hJ : ∀ c l M, J c l M → PW_X0_mattering X al n Q c l M) {R : Int64 → Mem → Prop} (hR : ∀ v M, R v M → Q (some (.long v)) M) {a0 : Nat} {j1 : Int64} {M : Mem} (h : T_X0_mattering_0 J R False n a0 j1 M) : AW X (RX0, cX0_mattering, 6, (some .long), false, al, n) 0 0 0 [(0, .ref a0), (1, .long j1)] [] M Q := by
  unfold T_X0_mattering_0 at h
  refine a_aload_n dX0_mattering_0 rfl rfl ?_
  obtain ⟨⟨ga1, gs2⟩, h⟩ := gd_t h
  refine a_get (v := .long (M.2.2.2.1 a0 8)) dX0_mattering_1 fl_0_57 ga1 gs2 rfl ?_
  refine a_lstore_n dX0_mattering_4 rfl (Nat.le_of_ble_eq_true rfl) (lv2 := [(3, .long (M.2.2.2.1 a0 8)), (0, .ref a0), (1, .long j1)]) rfl ?_
  refine a_iconst (v := 0) dX0_mattering_5 (by decide) ?_
  refine a_istore dX0_mattering_6 (Nat.le_of_ble_eq_true rfl) (lv2 := [(5, .int 0), (3, .long (M.2.2.2.1 a0 8)), (0, .ref a0), (1, .long j1)]) rfl ?_
  exact a_lv (lv2 := [(0, .ref a0), (1, .long j1), (3, .long (M.2.2.2.1 a0 8)), (5, .int 0)]) (fa_cons rfl (fa_cons rfl (fa_cons rfl (fa_cons rfl fa_nil)))) (hJ _ _ _ h)
set_option maxHeartbeats 4000000 in
set_option maxRecDepth 100000 in
noncomputable def T_X0_mattering_8.{u} {α : Sort u} (J : Nat → List Value → Mem → α) (R : Int64 → Mem → α) (N : α) (n : Nat) (a0 : Nat) (j1 : Int64) (j3 : Int64) (x5 : Int32) (M : Mem) : α := gd (fO M a0 0) N (if (M.2.2.1 a0 7) ≤ x5 then J 116 [.ref a0, .long j3, .int ((M.2.2.1 a0 7) - 1)] M else bnd (M.2.2.2.2 a0 1) N (fun r4 => gd (fA M r4 1 x5) N (if (M.2.2.1 r4 (x5.toNatClampNeg)) = 9 then if (lg_cmp ((lushr (M.2.2.2.1 a0 10) x5) &&& 1) 0) = 0 then J 67 [.ref a0, .long j1, .long j3, .int x5] M else bnd (M.2.2.2.2 a0 2) N (fun r12 => gd (fA M r12 2 x5) N (if (lg_cmp (j1 &&& (M.2.2.2.1 r12 (x5.toNatClampNeg))) 0) = 0 then J 67 [.ref a0, .long j1, .long j3, .int x5] M else bnd (M.2.2.2.2 a0 3) N (fun r19 => gd (fA M r19 2 x5) N (J 67 [.ref a0, .long j1, .long (j3 ||| (M.2.2.2.1 r19 (x5.toNatClampNeg))), .int x5] M)))) else J 8 [.ref a0, .long j1, .long j3, .int (x5 + 1)] M)))
set_option maxHeartbeats 4000000 in
set_option maxRecDepth 100000 in
theorem n_X0_mattering_8.{u, v} {α : Sort u} {β : Sort v} (h : α → β) (J : Nat → List Value → Mem → α) (R : Int64 → Mem → α) (N : α) (n : Nat) (a0 : Nat) (j1 : Int64) (j3 : Int64) (x5 : Int32) (M : Mem) : h (T_X0_mattering_8 J R N n a0 j1 j3 x5 M) = T_X0_mattering_8 (fun c l M => h (J c l M)) (fun v M => h (R v M)) (h N) n a0 j1 j3 x5 M := by
  simp only [T_X0_mattering_8, nat_ite h, nat_gd h, nat_bnd h, nat_bnd2 h]
set_option maxHeartbeats 4000000 in
set_option maxRecDepth 100000 in
theorem w_X0_mattering_8 {X : Nat × (Nat → Int32)} {al : Bool} {n : Nat} {Q : Option Value → Mem → Prop} {J : Nat → List Value → Mem → Prop} (hJ : ∀ c l M, J c l M → PW_X0_mattering X al n Q c l M) {R : Int64 → Mem → Prop} (hR : ∀ v M, R v M → Q (some (.long v)) M) {a0 : Nat} {j1 : Int64} {j3 : Int64} {x5 : Int32} {M : Mem} (h : T_X0_mattering_8 J R False n a0 j1 j3 x5 M) : AW X (RX0, cX0_mattering, 6, (some .long), false, al, n) 0 0 8 [(0, .ref a0), (1, .long j1), (3, .long j3), (5, .int x5)] [] M Q := by
  unfold T_X0_mattering_8 at h
  refine a_iload dX0_mattering_8 rfl ?_
  refine a_aload_n dX0_mattering_10 rfl rfl ?_
  obtain ⟨⟨ga1, gs2⟩, h⟩ := gd_t h
  refine a_get (v := .int (M.2.2.1 a0 7)) dX0_mattering_11 fl_0_79 ga1 gs2 rfl ?_
  refine a_icmp_ge 108 dX0_mattering_14 (by decide) (fun c3 => ?_) (fun c3 => ?_)
  · replace h := ite_t c3 h
    refine a_aload_n dX0_mattering_108 rfl rfl ?_
    refine a_get (v := .int (M.2.2.1 a0 7)) dX0_mattering_109 fl_0_79 ga1 gs2 rfl ?_
    refine a_iconst (v := 1) dX0_mattering_112 (by decide) ?_
    refine a_isub dX0_mattering_113 ?_
    refine a_istore dX0_mattering_114 (Nat.le_of_ble_eq_true rfl) (lv2 := [(5, .int ((M.2.2.1 a0 7) - 1)), (0, .ref a0), (1, .long j1), (3, .long j3)]) rfl ?_
    exact a_lv (lv2 := [(0, .ref a0), (3, .long j3), (5, .int ((M.2.2.1 a0 7) - 1))]) (fa_cons rfl (fa_cons rfl (fa_cons rfl fa_nil))) (hJ _ _ _ h)
  · replace h := ite_f c3 h
    refine a_aload_n dX0_mattering_17 rfl rfl ?_
    obtain ⟨r4, e5, h⟩ := bnd_t h
    refine a_get (v := .ref r4) dX0_mattering_18 fl_0_9 ga1 gs2 (gvR e5 rfl) ?_
    refine a_iload dX0_mattering_21 rfl ?_
    obtain ⟨⟨ga6, gn7, gs8, gi9⟩, h⟩ := gd_t h
    refine a_iaload dX0_mattering_23 ga6 gs8 gi9 ?_
    refine a_bipush (v := 9) dX0_mattering_24 (by decide) ?_
    refine a_icmp_ne 102 dX0_mattering_26 (by decide) (fun c10 => ?_) (fun c10 => ?_)
    · replace h := ite_f c10 h
      refine a_iinc (v := (x5 + 1)) dX0_mattering_102 rfl (by first | rfl | decide) (Nat.le_of_ble_eq_true rfl) (lv2 := [(5, .int (x5 + 1)), (0, .ref a0), (1, .long j1), (3, .long j3)]) rfl ?_
      refine a_goto 8 dX0_mattering_105 (by decide) ?_
      exact a_lv (lv2 := [(0, .ref a0), (1, .long j1), (3, .long j3), (5, .int (x5 + 1))]) (fa_cons rfl (fa_cons rfl (fa_cons rfl (fa_cons rfl fa_nil)))) (hJ _ _ _ h)
    · replace h := ite_t c10 h
      refine a_aload_n dX0_mattering_29 rfl rfl ?_
      refine a_get (v := .long (M.2.2.2.1 a0 10)) dX0_mattering_30 fl_0_65 ga1 gs2 rfl ?_
      refine a_iload dX0_mattering_33 rfl ?_
      refine a_lushr dX0_mattering_35 ?_
      refine a_lconst (v := 1) dX0_mattering_36 (by decide) ?_
      refine a_land dX0_mattering_37 ?_
      refine a_lconst (v := 0) dX0_mattering_38 (by decide) ?_
      refine a_lcmp dX0_mattering_39 ?_
      refine a_if_eq 67 dX0_mattering_40 (by decide) (fun c11 => ?_) (fun c11 => ?_)
      · replace h := ite_t c11 h
        exact a_lv (lv2 := [(0, .ref a0), (1, .long j1), (3, .long j3), (5, .int x5)]) (fa_cons rfl (fa_cons rfl (fa_cons rfl (fa_cons rfl fa_nil)))) (hJ _ _ _ h)
      · replace h := ite_f c11 h
        refine a_lload_n dX0_mattering_43 rfl rfl ?_
        refine a_aload_n dX0_mattering_44 rfl rfl ?_
        obtain ⟨r12, e13, h⟩ := bnd_t h
        refine a_get (v := .ref r12) dX0_mattering_45 fl_0_15 ga1 gs2 (gvR e13 rfl) ?_
        refine a_iload dX0_mattering_48 rfl ?_
        obtain ⟨⟨ga14, gn15, gs16, gi17⟩, h⟩ := gd_t h
        refine a_laload dX0_mattering_50 ga14 gs16 gi17 ?_
        refine a_land dX0_mattering_51 ?_
        refine a_lconst (v := 0) dX0_mattering_52 (by decide) ?_
        refine a_lcmp dX0_mattering_53 ?_
        refine a_if_eq 67 dX0_mattering_54 (by decide) (fun c18 => ?_) (fun c18 => ?_)
        · replace h := ite_t c18 h
          exact a_lv (lv2 := [(0, .ref a0), (1, .long j1), (3, .long j3), (5, .int x5)]) (fa_cons rfl (fa_cons rfl (fa_cons rfl (fa_cons rfl fa_nil)))) (hJ _ _ _ h)
        · replace h := ite_f c18 h
          refine a_lload_n dX0_mattering_57 rfl rfl ?_
          refine a_aload_n dX0_mattering_58 rfl rfl ?_
          obtain ⟨r19, e20, h⟩ := bnd_t h
          refine a_get (v := .ref r19) dX0_mattering_59 fl_0_19 ga1 gs2 (gvR e20 rfl) ?_
          refine a_iload dX0_mattering_62 rfl ?_
          obtain ⟨⟨ga21, gn22, gs23, gi24⟩, h⟩ := gd_t h
          refine a_laload dX0_mattering_64 ga21 gs23 gi24 ?_
          refine a_lor dX0_mattering_65 ?_
          refine a_lstore_n dX0_mattering_66 rfl (Nat.le_of_ble_eq_true rfl) (lv2 := [(3, .long (j3 ||| (M.2.2.2.1 r19 (x5.toNatClampNeg)))), (0, .ref a0), (1, .long j1), (5, .int x5)]) rfl ?_
          exact a_lv (lv2 := [(0, .ref a0), (1, .long j1), (3, .long (j3 ||| (M.2.2.2.1 r19 (x5.toNatClampNeg)))), (5, .int x5)]) (fa_cons rfl (fa_cons rfl (fa_cons rfl (fa_cons rfl fa_nil)))) (hJ _ _ _ h)
set_option maxHeartbeats 4000000 in
set_option maxRecDepth 100000 in
noncomputable def T_X0_mattering_67.{u} {α : Sort u} (J : Nat → List Value → Mem → α) (R : Int64 → Mem → α) (N : α) (n : Nat) (a0 : Nat) (j1 : Int64) (j3 : Int64) (x5 : Int32) (M : Mem) : α := if (lg_cmp ((lushr j1 x5) &&& 1) 0) = 0 then J 8 [.ref a0, .long j1, .long j3, .int (x5 + 1)] M else gd (fO M a0 0) N (bnd (M.2.2.2.2 a0 3) N (fun r4 => gd (fA M r4 2 x5) N (if (lg_cmp (j1 &&& (M.2.2.2.1 r4 (x5.toNatClampNeg))) 0) = 0 then bnd (M.2.2.2.2 a0 2) N (fun r11 => gd (fA M r11 2 x5) N (J 8 [.ref a0, .long j1, .long (j3 ||| (M.2.2.2.1 r11 (x5.toNatClampNeg))), .int (x5 + 1)] M)) else J 8 [.ref a0, .long j1, .long j3, .int (x5 + 1)] M)))
set_option maxHeartbeats 4000000 in
set_option maxRecDepth 100000 in
theorem n_X0_mattering_67.{u, v} {α : Sort u} {β : Sort v} (h : α → β) (J : Nat → List Value → Mem → α) (R : Int64 → Mem → α) (N : α) (n : Nat) (a0 : Nat) (j1 : Int64) (j3 : Int64) (x5 : Int32) (M : Mem) : h (T_X0_mattering_67 J R N n a0 j1 j3 x5 M) = T_X0_mattering_67 (fun c l M => h (J c l M)) (fun v M => h (R v M)) (h N) n a0 j1 j3 x5 M := by
  simp only [T_X0_mattering_67, nat_ite h, nat_gd h, nat_bnd h, nat_bnd2 h]
set_option maxHeartbeats 4000000 in
set_option maxRecDepth 100000 in
theorem w_X0_mattering_67 {X : Nat × (Nat → Int32)} {al : Bool} {n : Nat} {Q : Option Value → Mem → Prop} {J : Nat → List Value → Mem → Prop} (hJ : ∀ c l M, J c l M → PW_X0_mattering X al n Q c l M) {R : Int64 → Mem → Prop} (hR : ∀ v M, R v M → Q (some (.long v)) M) {a0 : Nat} {j1 : Int64} {j3 : Int64} {x5 : Int32} {M : Mem} (h : T_X0_mattering_67 J R False n a0 j1 j3 x5 M) : AW X (RX0, cX0_mattering, 6, (some .long), false, al, n) 0 0 67 [(0, .ref a0), (1, .long j1), (3, .long j3), (5, .int x5)] [] M Q := by
  unfold T_X0_mattering_67 at h
  refine a_lload_n dX0_mattering_67 rfl rfl ?_
  refine a_iload dX0_mattering_68 rfl ?_
  refine a_lushr dX0_mattering_70 ?_
  refine a_lconst (v := 1) dX0_mattering_71 (by decide) ?_
  refine a_land dX0_mattering_72 ?_
  refine a_lconst (v := 0) dX0_mattering_73 (by decide) ?_
  refine a_lcmp dX0_mattering_74 ?_
  refine a_if_eq 102 dX0_mattering_75 (by decide) (fun c1 => ?_) (fun c1 => ?_)
  · replace h := ite_t c1 h
    refine a_iinc (v := (x5 + 1)) dX0_mattering_102 rfl (by first | rfl | decide) (Nat.le_of_ble_eq_true rfl) (lv2 := [(5, .int (x5 + 1)), (0, .ref a0), (1, .long j1), (3, .long j3)]) rfl ?_
    refine a_goto 8 dX0_mattering_105 (by decide) ?_
    exact a_lv (lv2 := [(0, .ref a0), (1, .long j1), (3, .long j3), (5, .int (x5 + 1))]) (fa_cons rfl (fa_cons rfl (fa_cons rfl (fa_cons rfl fa_nil)))) (hJ _ _ _ h)
  · replace h := ite_f c1 h
    refine a_lload_n dX0_mattering_78 rfl rfl ?_
    refine a_aload_n dX0_mattering_79 rfl rfl ?_
    obtain ⟨⟨ga2, gs3⟩, h⟩ := gd_t h
    obtain ⟨r4, e5, h⟩ := bnd_t h
    refine a_get (v := .ref r4) dX0_mattering_80 fl_0_19 ga2 gs3 (gvR e5 rfl) ?_
    refine a_iload dX0_mattering_83 rfl ?_
    obtain ⟨⟨ga6, gn7, gs8, gi9⟩, h⟩ := gd_t h
    refine a_laload dX0_mattering_85 ga6 gs8 gi9 ?_
    refine a_land dX0_mattering_86 ?_
    refine a_lconst (v := 0) dX0_mattering_87 (by decide) ?_
    refine a_lcmp dX0_mattering_88 ?_
    refine a_if_ne 102 dX0_mattering_89 (by decide) (fun c10 => ?_) (fun c10 => ?_)
    · replace h := ite_f c10 h
      refine a_iinc (v := (x5 + 1)) dX0_mattering_102 rfl (by first | rfl | decide) (Nat.le_of_ble_eq_true rfl) (lv2 := [(5, .int (x5 + 1)), (0, .ref a0), (1, .long j1), (3, .long j3)]) rfl ?_
      refine a_goto 8 dX0_mattering_105 (by decide) ?_
      exact a_lv (lv2 := [(0, .ref a0), (1, .long j1), (3, .long j3), (5, .int (x5 + 1))]) (fa_cons rfl (fa_cons rfl (fa_cons rfl (fa_cons rfl fa_nil)))) (hJ _ _ _ h)
    · replace h := ite_t c10 h
      refine a_lload_n dX0_mattering_92 rfl rfl ?_
      refine a_aload_n dX0_mattering_93 rfl rfl ?_
      obtain ⟨r11, e12, h⟩ := bnd_t h
      refine a_get (v := .ref r11) dX0_mattering_94 fl_0_15 ga2 gs3 (gvR e12 rfl) ?_
      refine a_iload dX0_mattering_97 rfl ?_
      obtain ⟨⟨ga13, gn14, gs15, gi16⟩, h⟩ := gd_t h
      refine a_laload dX0_mattering_99 ga13 gs15 gi16 ?_
      refine a_lor dX0_mattering_100 ?_
      refine a_lstore_n dX0_mattering_101 rfl (Nat.le_of_ble_eq_true rfl) (lv2 := [(3, .long (j3 ||| (M.2.2.2.1 r11 (x5.toNatClampNeg)))), (0, .ref a0), (1, .long j1), (5, .int x5)]) rfl ?_
      refine a_iinc (v := (x5 + 1)) dX0_mattering_102 rfl (by first | rfl | decide) (Nat.le_of_ble_eq_true rfl) (lv2 := [(5, .int (x5 + 1)), (3, .long (j3 ||| (M.2.2.2.1 r11 (x5.toNatClampNeg)))), (0, .ref a0), (1, .long j1)]) rfl ?_
      refine a_goto 8 dX0_mattering_105 (by decide) ?_
      exact a_lv (lv2 := [(0, .ref a0), (1, .long j1), (3, .long (j3 ||| (M.2.2.2.1 r11 (x5.toNatClampNeg)))), (5, .int (x5 + 1))]) (fa_cons rfl (fa_cons rfl (fa_cons rfl (fa_cons rfl fa_nil)))) (hJ _ _ _ h)
set_option maxHeartbeats 4000000 in
set_option maxRecDepth 100000 in
noncomputable def T_X0_mattering_116.{u} {α : Sort u} (J : Nat → List Value → Mem → α) (R : Int64 → Mem → α) (N : α) (n : Nat) (a0 : Nat) (j3 : Int64) (x5 : Int32) (M : Mem) : α := if x5 < 0 then R j3 M else gd (fO M a0 0) N (bnd (M.2.2.2.2 a0 1) N (fun r4 => gd (fA M r4 1 x5) N (if (M.2.2.1 r4 (x5.toNatClampNeg)) ≤ 9 then J 116 [.ref a0, .long j3, .int (x5 + (-1))] M else if (lg_cmp ((lushr j3 x5) &&& 1) 0) = 0 then J 116 [.ref a0, .long j3, .int (x5 + (-1))] M else bnd (M.2.2.2.2 a0 2) N (fun r12 => gd (fA M r12 2 x5) N (bnd (M.2.2.2.2 a0 3) N (fun r18 => gd (fA M r18 2 x5) N (J 116 [.ref a0, .long (j3 ||| ((M.2.2.2.1 r12 (x5.toNatClampNeg)) ||| (M.2.2.2.1 r18 (x5.toNatClampNeg)))), .int (x5 + (-1))] M)))))))
set_option maxHeartbeats 4000000 in
set_option maxRecDepth 100000 in
theorem n_X0_mattering_116.{u, v} {α : Sort u} {β : Sort v} (h : α → β) (J : Nat → List Value → Mem → α) (R : Int64 → Mem → α) (N : α) (n : Nat) (a0 : Nat) (j3 : Int64) (x5 : Int32) (M : Mem) : h (T_X0_mattering_116 J R N n a0 j3 x5 M) = T_X0_mattering_116 (fun c l M => h (J c l M)) (fun v M => h (R v M)) (h N) n a0 j3 x5 M := by
  simp only [T_X0_mattering_116, nat_ite h, nat_gd h, nat_bnd h, nat_bnd2 h]
set_option maxHeartbeats 4000000 in
set_option maxRecDepth 100000 in
theorem w_X0_mattering_116 {X : Nat × (Nat → Int32)} {al : Bool} {n : Nat} {Q : Option Value → Mem → Prop} {J : Nat → List Value → Mem → Prop} (hJ : ∀ c l M, J c l M → PW_X0_mattering X al n Q c l M) {R : Int64 → Mem → Prop} (hR : ∀ v M, R v M → Q (some (.long v)) M) {a0 : Nat} {j3 : Int64} {x5 : Int32} {M : Mem} (h : T_X0_mattering_116 J R False n a0 j3 x5 M) : AW X (RX0, cX0_mattering, 6, (some .long), false, al, n) 0 0 116 [(0, .ref a0), (3, .long j3), (5, .int x5)] [] M Q := by
  unfold T_X0_mattering_116 at h
  refine a_iload dX0_mattering_116 rfl ?_
  refine a_if_lt 168 dX0_mattering_118 (by decide) (fun c1 => ?_) (fun c1 => ?_)
  · replace h := ite_t c1 h
    refine a_lload_n dX0_mattering_168 rfl rfl ?_
    exact a_lret dX0_mattering_169 rfl (hR _ _ h)
  · replace h := ite_f c1 h
    refine a_aload_n dX0_mattering_121 rfl rfl ?_
    obtain ⟨⟨ga2, gs3⟩, h⟩ := gd_t h
    obtain ⟨r4, e5, h⟩ := bnd_t h
    refine a_get (v := .ref r4) dX0_mattering_122 fl_0_9 ga2 gs3 (gvR e5 rfl) ?_
    refine a_iload dX0_mattering_125 rfl ?_
    obtain ⟨⟨ga6, gn7, gs8, gi9⟩, h⟩ := gd_t h
    refine a_iaload dX0_mattering_127 ga6 gs8 gi9 ?_
    refine a_bipush (v := 9) dX0_mattering_128 (by decide) ?_
    refine a_icmp_le 162 dX0_mattering_130 (by decide) (fun c10 => ?_) (fun c10 => ?_)
    · replace h := ite_t c10 h
      refine a_iinc (v := (x5 + (-1))) dX0_mattering_162 rfl (by first | rfl | decide) (Nat.le_of_ble_eq_true rfl) (lv2 := [(5, .int (x5 + (-1))), (0, .ref a0), (3, .long j3)]) rfl ?_
      refine a_goto 116 dX0_mattering_165 (by decide) ?_
      exact a_lv (lv2 := [(0, .ref a0), (3, .long j3), (5, .int (x5 + (-1)))]) (fa_cons rfl (fa_cons rfl (fa_cons rfl fa_nil))) (hJ _ _ _ h)
    · replace h := ite_f c10 h
      refine a_lload_n dX0_mattering_133 rfl rfl ?_
      refine a_iload dX0_mattering_134 rfl ?_
      refine a_lushr dX0_mattering_136 ?_
      refine a_lconst (v := 1) dX0_mattering_137 (by decide) ?_
      refine a_land dX0_mattering_138 ?_
      refine a_lconst (v := 0) dX0_mattering_139 (by decide) ?_
      refine a_lcmp dX0_mattering_140 ?_
      refine a_if_eq 162 dX0_mattering_141 (by decide) (fun c11 => ?_) (fun c11 => ?_)
      · replace h := ite_t c11 h
        refine a_iinc (v := (x5 + (-1))) dX0_mattering_162 rfl (by first | rfl | decide) (Nat.le_of_ble_eq_true rfl) (lv2 := [(5, .int (x5 + (-1))), (0, .ref a0), (3, .long j3)]) rfl ?_
        refine a_goto 116 dX0_mattering_165 (by decide) ?_
        exact a_lv (lv2 := [(0, .ref a0), (3, .long j3), (5, .int (x5 + (-1)))]) (fa_cons rfl (fa_cons rfl (fa_cons rfl fa_nil))) (hJ _ _ _ h)
      · replace h := ite_f c11 h
        refine a_lload_n dX0_mattering_144 rfl rfl ?_
        refine a_aload_n dX0_mattering_145 rfl rfl ?_
        obtain ⟨r12, e13, h⟩ := bnd_t h
        refine a_get (v := .ref r12) dX0_mattering_146 fl_0_15 ga2 gs3 (gvR e13 rfl) ?_
        refine a_iload dX0_mattering_149 rfl ?_
        obtain ⟨⟨ga14, gn15, gs16, gi17⟩, h⟩ := gd_t h
        refine a_laload dX0_mattering_151 ga14 gs16 gi17 ?_
        refine a_aload_n dX0_mattering_152 rfl rfl ?_
        obtain ⟨r18, e19, h⟩ := bnd_t h
        refine a_get (v := .ref r18) dX0_mattering_153 fl_0_19 ga2 gs3 (gvR e19 rfl) ?_
        refine a_iload dX0_mattering_156 rfl ?_
        obtain ⟨⟨ga20, gn21, gs22, gi23⟩, h⟩ := gd_t h
        refine a_laload dX0_mattering_158 ga20 gs22 gi23 ?_
        refine a_lor dX0_mattering_159 ?_
        refine a_lor dX0_mattering_160 ?_
        refine a_lstore_n dX0_mattering_161 rfl (Nat.le_of_ble_eq_true rfl) (lv2 := [(3, .long (j3 ||| ((M.2.2.2.1 r12 (x5.toNatClampNeg)) ||| (M.2.2.2.1 r18 (x5.toNatClampNeg))))), (0, .ref a0), (5, .int x5)]) rfl ?_
        refine a_iinc (v := (x5 + (-1))) dX0_mattering_162 rfl (by first | rfl | decide) (Nat.le_of_ble_eq_true rfl) (lv2 := [(5, .int (x5 + (-1))), (3, .long (j3 ||| ((M.2.2.2.1 r12 (x5.toNatClampNeg)) ||| (M.2.2.2.1 r18 (x5.toNatClampNeg))))), (0, .ref a0)]) rfl ?_
        refine a_goto 116 dX0_mattering_165 (by decide) ?_
        exact a_lv (lv2 := [(0, .ref a0), (3, .long (j3 ||| ((M.2.2.2.1 r12 (x5.toNatClampNeg)) ||| (M.2.2.2.1 r18 (x5.toNatClampNeg))))), (5, .int (x5 + (-1)))]) (fa_cons rfl (fa_cons rfl (fa_cons rfl fa_nil))) (hJ _ _ _ h)
set_option maxHeartbeats 4000000 in
set_option maxRecDepth 100000 in
noncomputable def st_X0_mattering (n : Nat) (s : Sg) : Option (Sg ⊕ (Int64 × Mem)) := if s.1 = 0 then vR s.2.1 none (fun a0 t => vJ t none (fun j1 t => vE t none (T_X0_mattering_0 (fun c l M => some (.inl (c, l, M))) (fun v M => some (.inr (v, M))) none n a0 j1 s.2.2))) else if s.1 = 8 then vR s.2.1 none (fun a0 t => vJ t none (fun j1 t => vJ t none (fun j3 t => vI t none (fun x5 t => vE t none (T_X0_mattering_8 (fun c l M => some (.inl (c, l, M))) (fun v M => some (.inr (v, M))) none n a0 j1 j3 x5 s.2.2))))) else if s.1 = 67 then vR s.2.1 none (fun a0 t => vJ t none (fun j1 t => vJ t none (fun j3 t => vI t none (fun x5 t => vE t none (T_X0_mattering_67 (fun c l M => some (.inl (c, l, M))) (fun v M => some (.inr (v, M))) none n a0 j1 j3 x5 s.2.2))))) else if s.1 = 116 then vR s.2.1 none (fun a0 t => vJ t none (fun j3 t => vI t none (fun x5 t => vE t none (T_X0_mattering_116 (fun c l M => some (.inl (c, l, M))) (fun v M => some (.inr (v, M))) none n a0 j3 x5 s.2.2)))) else none
noncomputable abbrev g_X0_mattering_0 (n : Nat) (a0 : Nat) (j1 : Int64) (M : Mem) : Option (Int64 × Mem) := lp (st_X0_mattering n) (0, [.ref a0, .long j1], M)
set_option maxHeartbeats 4000000 in
set_option maxRecDepth 100000 in
theorem ge_X0_mattering_0 (n : Nat) (a0 : Nat) (j1 : Int64) (M : Mem) : g_X0_mattering_0 n a0 j1 M = T_X0_mattering_0 (fun c l M => lp (st_X0_mattering n) (c, l, M)) (fun v M => some (v, M)) none n a0 j1 M := (lp_eq _ _).trans (n_X0_mattering_0 (lpK (st_X0_mattering n)) (fun c l M => some (.inl (c, l, M))) (fun v M => some (.inr (v, M))) none n a0 j1 M)
noncomputable abbrev g_X0_mattering_8 (n : Nat) (a0 : Nat) (j1 : Int64) (j3 : Int64) (x5 : Int32) (M : Mem) : Option (Int64 × Mem) := lp (st_X0_mattering n) (8, [.ref a0, .long j1, .long j3, .int x5], M)
set_option maxHeartbeats 4000000 in
set_option maxRecDepth 100000 in
theorem ge_X0_mattering_8 (n : Nat) (a0 : Nat) (j1 : Int64) (j3 : Int64) (x5 : Int32) (M : Mem) : g_X0_mattering_8 n a0 j1 j3 x5 M = T_X0_mattering_8 (fun c l M => lp (st_X0_mattering n) (c, l, M)) (fun v M => some (v, M)) none n a0 j1 j3 x5 M := (lp_eq _ _).trans (n_X0_mattering_8 (lpK (st_X0_mattering n)) (fun c l M => some (.inl (c, l, M))) (fun v M => some (.inr (v, M))) none n a0 j1 j3 x5 M)
noncomputable abbrev g_X0_mattering_67 (n : Nat) (a0 : Nat) (j1 : Int64) (j3 : Int64) (x5 : Int32) (M : Mem) : Option (Int64 × Mem) := lp (st_X0_mattering n) (67, [.ref a0, .long j1, .long j3, .int x5], M)
set_option maxHeartbeats 4000000 in
set_option maxRecDepth 100000 in
theorem ge_X0_mattering_67 (n : Nat) (a0 : Nat) (j1 : Int64) (j3 : Int64) (x5 : Int32) (M : Mem) : g_X0_mattering_67 n a0 j1 j3 x5 M = T_X0_mattering_67 (fun c l M => lp (st_X0_mattering n) (c, l, M)) (fun v M => some (v, M)) none n a0 j1 j3 x5 M := (lp_eq _ _).trans (n_X0_mattering_67 (lpK (st_X0_mattering n)) (fun c l M => some (.inl (c, l, M))) (fun v M => some (.inr (v, M))) none n a0 j1 j3 x5 M)
noncomputable abbrev g_X0_mattering_116 (n : Nat) (a0 : Nat) (j3 : Int64) (x5 : Int32) (M : Mem) : Option (Int64 × Mem) := lp (st_X0_mattering n) (116, [.ref a0, .long j3, .int x5], M)
set_option maxHeartbeats 4000000 in
set_option maxRecDepth 100000 in
theorem ge_X0_mattering_116 (n : Nat) (a0 : Nat) (j3 : Int64) (x5 : Int32) (M : Mem) : g_X0_mattering_116 n a0 j3 x5 M = T_X0_mattering_116 (fun c l M => lp (st_X0_mattering n) (c, l, M)) (fun v M => some (v, M)) none n a0 j3 x5 M := (lp_eq _ _).trans (n_X0_mattering_116 (lpK (st_X0_mattering n)) (fun c l M => some (.inl (c, l, M))) (fun v M => some (.inr (v, M))) none n a0 j3 x5 M)
noncomputable def b_X0_mattering (n : Nat) (a0 : Nat) (j1 : Int64) (M : Mem) : Option (Int64 × Mem) := g_X0_mattering_0 n a0 j1 M
set_option maxHeartbeats 4000000 in
set_option maxRecDepth 100000 in
theorem sb_X0_mattering {X : Nat × (Nat → Int32)} {al : Bool} {n : Nat} {a0 : Nat} {j1 : Int64} {M : Mem} {v : Int64} {M1 : Mem} (h : b_X0_mattering n a0 j1 M = some (v, M1)) : AE yX0_mattering cX0_mattering 6 (some .long) al n X [.ref a0, .long j1] M (some (.long v)) M1 := by
  refine AM.of false (by decide +kernel) (by intro h; cases h) (Nat.le_of_ble_eq_true rfl) ?_
  refine lp_snd (P := fun s r => PW_X0_mattering X al n (fun v M2 => v = (some (.long r.1)) ∧ M2 = r.2) s.1 s.2.1 s.2.2) ?_ h
  clear h
  rintro ⟨c, l, M⟩ r h
  unfold st_X0_mattering at h
  rcases ite_p h with ⟨e, h⟩ | ⟨e, h⟩
  · replace e : c = 0 := e
    subst e
    obtain ⟨a0, tt0, e, h⟩ := vR_p id h
    replace e : l = _ := e
    subst e
    obtain ⟨j1, tt1, e, h⟩ := vJ_p id h
    replace e : tt0 = _ := e
    subst e
    obtain ⟨e, h⟩ := vE_p id h
    replace e : tt1 = [] := e
    subst e
    exact w_X0_mattering_0 (J := fun c l M => PW_X0_mattering X al n (fun v M2 => v = (some (.long r.1)) ∧ M2 = r.2) c l M) (R := fun v M => (v, M) = r) (fun _ _ _ h => h) (fun v M h => by cases h; exact ⟨rfl, rfl⟩) ((n_X0_mattering_0 (lpP (fun (s : Sg) (r : Int64 × Mem) => PW_X0_mattering X al n (fun v M2 => v = (some (.long r.1)) ∧ M2 = r.2) s.1 s.2.1 s.2.2) r) (fun c l M => some (.inl (c, l, M))) (fun v M => some (.inr (v, M))) none n a0 j1 M).mp h)
  rcases ite_p h with ⟨e, h⟩ | ⟨e, h⟩
  · replace e : c = 8 := e
    subst e
    obtain ⟨a0, tt0, e, h⟩ := vR_p id h
    replace e : l = _ := e
    subst e
    obtain ⟨j1, tt1, e, h⟩ := vJ_p id h
    replace e : tt0 = _ := e
    subst e
    obtain ⟨j3, tt2, e, h⟩ := vJ_p id h
    replace e : tt1 = _ := e
    subst e
    obtain ⟨x5, tt3, e, h⟩ := vI_p id h
    replace e : tt2 = _ := e
    subst e
    obtain ⟨e, h⟩ := vE_p id h
    replace e : tt3 = [] := e
    subst e
    exact w_X0_mattering_8 (J := fun c l M => PW_X0_mattering X al n (fun v M2 => v = (some (.long r.1)) ∧ M2 = r.2) c l M) (R := fun v M => (v, M) = r) (fun _ _ _ h => h) (fun v M h => by cases h; exact ⟨rfl, rfl⟩) ((n_X0_mattering_8 (lpP (fun (s : Sg) (r : Int64 × Mem) => PW_X0_mattering X al n (fun v M2 => v = (some (.long r.1)) ∧ M2 = r.2) s.1 s.2.1 s.2.2) r) (fun c l M => some (.inl (c, l, M))) (fun v M => some (.inr (v, M))) none n a0 j1 j3 x5 M).mp h)
  rcases ite_p h with ⟨e, h⟩ | ⟨e, h⟩
  · replace e : c = 67 := e
    subst e
    obtain ⟨a0, tt0, e, h⟩ := vR_p id h
    replace e : l = _ := e
    subst e
    obtain ⟨j1, tt1, e, h⟩ := vJ_p id h
    replace e : tt0 = _ := e
    subst e
    obtain ⟨j3, tt2, e, h⟩ := vJ_p id h
    replace e : tt1 = _ := e
    subst e
    obtain ⟨x5, tt3, e, h⟩ := vI_p id h
    replace e : tt2 = _ := e
    subst e
    obtain ⟨e, h⟩ := vE_p id h
    replace e : tt3 = [] := e
    subst e
    exact w_X0_mattering_67 (J := fun c l M => PW_X0_mattering X al n (fun v M2 => v = (some (.long r.1)) ∧ M2 = r.2) c l M) (R := fun v M => (v, M) = r) (fun _ _ _ h => h) (fun v M h => by cases h; exact ⟨rfl, rfl⟩) ((n_X0_mattering_67 (lpP (fun (s : Sg) (r : Int64 × Mem) => PW_X0_mattering X al n (fun v M2 => v = (some (.long r.1)) ∧ M2 = r.2) s.1 s.2.1 s.2.2) r) (fun c l M => some (.inl (c, l, M))) (fun v M => some (.inr (v, M))) none n a0 j1 j3 x5 M).mp h)
  rcases ite_p h with ⟨e, h⟩ | ⟨e, h⟩
  · replace e : c = 116 := e
    subst e
    obtain ⟨a0, tt0, e, h⟩ := vR_p id h
    replace e : l = _ := e
    subst e
    obtain ⟨j3, tt1, e, h⟩ := vJ_p id h
    replace e : tt0 = _ := e
    subst e
    obtain ⟨x5, tt2, e, h⟩ := vI_p id h
    replace e : tt1 = _ := e
    subst e
    obtain ⟨e, h⟩ := vE_p id h
    replace e : tt2 = [] := e
    subst e
    exact w_X0_mattering_116 (J := fun c l M => PW_X0_mattering X al n (fun v M2 => v = (some (.long r.1)) ∧ M2 = r.2) c l M) (R := fun v M => (v, M) = r) (fun _ _ _ h => h) (fun v M h => by cases h; exact ⟨rfl, rfl⟩) ((n_X0_mattering_116 (lpP (fun (s : Sg) (r : Int64 × Mem) => PW_X0_mattering X al n (fun v M2 => v = (some (.long r.1)) ∧ M2 = r.2) s.1 s.2.1 s.2.2) r) (fun c l M => some (.inl (c, l, M))) (fun v M => some (.inr (v, M))) none n a0 j3 x5 M).mp h)
  · exact h.elim

noncomputable abbrev f_X0_mattering := b_X0_mattering
theorem s_X0_mattering {X : Nat × (Nat → Int32)} {al : Bool} {n : Nat} {a0 : Nat} {j1 : Int64} {M : Mem} {v : Int64} {M1 : Mem} (h : f_X0_mattering n a0 j1 M = some (v, M1)) : AE yX0_mattering cX0_mattering 6 (some .long) al n X [.ref a0, .long j1] M (some (.long v)) M1 := sb_X0_mattering h
set_option maxHeartbeats 4000000 in
set_option maxRecDepth 100000 in
noncomputable def T_X0_remember_0.{u} {α : Sort u} (R : Unit → Mem → α) (N : α) (n : Nat) (a0 : Nat) (j1 : Int64) (j3 : Int64) (M : Mem) : α := gd (fO M a0 0) N (bnd2 (cal n (fun n => f_X0_memoSpot n a0 j1 M)) N (fun v3 M4 => gd (fO M4 a0 0) N (if 6144 ≤ (M4.2.2.1 a0 6) then R () M4 else if v3 < 0 then R () M4 else if 8192 ≤ v3 then R () M4 else bnd (M4.2.2.2.2 a0 4) N (fun r13 => gd (fA M4 r13 2 v3) N (bnd (M4.2.2.2.2 a0 5) N (fun r19 => gd (fA M4 r19 2 v3) N (R () (wI (wJ (wJ M4 r13 (v3.toNatClampNeg) (j1 + 1)) r19 (v3.toNatClampNeg) j3) a0 6 ((M4.2.2.1 a0 6) + 1)))))))))
set_option maxHeartbeats 4000000 in
set_option maxRecDepth 100000 in
theorem n_X0_remember_0.{u, v} {α : Sort u} {β : Sort v} (h : α → β) (R : Unit → Mem → α) (N : α) (n : Nat) (a0 : Nat) (j1 : Int64) (j3 : Int64) (M : Mem) : h (T_X0_remember_0 R N n a0 j1 j3 M) = T_X0_remember_0 (fun v M => h (R v M)) (h N) n a0 j1 j3 M := by
  simp only [T_X0_remember_0, nat_ite h, nat_gd h, nat_bnd h, nat_bnd2 h]
set_option maxHeartbeats 4000000 in
set_option maxRecDepth 100000 in
theorem w_X0_remember_0 {X : Nat × (Nat → Int32)} {al : Bool} {n : Nat} {Q : Option Value → Mem → Prop} {R : Unit → Mem → Prop} (hR : ∀ v M, R v M → Q none M) {a0 : Nat} {j1 : Int64} {j3 : Int64} {M : Mem} (h : T_X0_remember_0 R False n a0 j1 j3 M) : AW X (RX0, cX0_remember, 6, none, false, al, n) 0 0 0 [(0, .ref a0), (1, .long j1), (3, .long j3)] [] M Q := by
  unfold T_X0_remember_0 at h
  refine a_aload_n dX0_remember_0 rfl rfl ?_
  refine a_lload_n dX0_remember_1 rfl rfl ?_
  obtain ⟨⟨ga1, gs2⟩, h⟩ := gd_t h
  obtain ⟨v3, M4, e5, h⟩ := bnd2_t h
  obtain ⟨n6, en7, e5⟩ := cal_t e5
  refine e_callV (As := [.long j1]) (st := []) (a := a0) (ci := 0) false dX0_remember_2 mw_X0_memoSpot (Or.inl ⟨rfl, ml_X0_97⟩) im_X0_memoSpot se_X0_memoSpot (by decide) ga1 gs2 rfl (Nat.le_of_ble_eq_true rfl) en7 (s_X0_memoSpot e5) ?_
  refine a_istore dX0_remember_5 (Nat.le_of_ble_eq_true rfl) (lv2 := [(5, .int v3), (0, .ref a0), (1, .long j1), (3, .long j3)]) rfl ?_
  refine a_aload_n dX0_remember_7 rfl rfl ?_
  obtain ⟨⟨ga8, gs9⟩, h⟩ := gd_t h
  refine a_get (v := .int (M4.2.2.1 a0 6)) dX0_remember_8 fl_0_35 ga8 gs9 rfl ?_
  refine a_sipush (v := 6144) dX0_remember_11 (by decide) ?_
  refine a_icmp_ge 58 dX0_remember_14 (by decide) (fun c10 => ?_) (fun c10 => ?_)
  · replace h := ite_t c10 h
    exact a_vret dX0_remember_58 rfl (hR _ _ h)
  · replace h := ite_f c10 h
    refine a_iload dX0_remember_17 rfl ?_
    refine a_if_lt 58 dX0_remember_19 (by decide) (fun c11 => ?_) (fun c11 => ?_)
    · replace h := ite_t c11 h
      exact a_vret dX0_remember_58 rfl (hR _ _ h)
    · replace h := ite_f c11 h
      refine a_iload dX0_remember_22 rfl ?_
      refine a_sipush (v := 8192) dX0_remember_24 (by decide) ?_
      refine a_icmp_ge 58 dX0_remember_27 (by decide) (fun c12 => ?_) (fun c12 => ?_)
      · replace h := ite_t c12 h
        exact a_vret dX0_remember_58 rfl (hR _ _ h)
      · replace h := ite_f c12 h
        refine a_aload_n dX0_remember_30 rfl rfl ?_
        obtain ⟨r13, e14, h⟩ := bnd_t h
        refine a_get (v := .ref r13) dX0_remember_31 fl_0_22 ga8 gs9 (gvR e14 rfl) ?_
        refine a_iload dX0_remember_34 rfl ?_
        refine a_lload_n dX0_remember_36 rfl rfl ?_
        refine a_lconst (v := 1) dX0_remember_37 (by decide) ?_
        refine a_ladd dX0_remember_38 ?_
        obtain ⟨⟨ga15, gn16, gs17, gi18⟩, h⟩ := gd_t h
        refine a_lastore dX0_remember_39 ga15 gs17 gi18 ?_
        refine a_aload_n dX0_remember_40 rfl rfl ?_
        obtain ⟨r19, e20, h⟩ := bnd_t h
        refine a_get (v := .ref r19) dX0_remember_41 fl_0_25 ga8 gs9 (gvR e20 rfl) ?_
        refine a_iload dX0_remember_44 rfl ?_
        refine a_lload_n dX0_remember_46 rfl rfl ?_
        obtain ⟨⟨ga21, gn22, gs23, gi24⟩, h⟩ := gd_t h
        refine a_lastore dX0_remember_47 ga21 gs23 gi24 ?_
        refine a_aload_n dX0_remember_48 rfl rfl ?_
        refine a_dup dX0_remember_49 rfl ?_
        refine a_get (v := .int (M4.2.2.1 a0 6)) dX0_remember_50 fl_0_35 ga8 gs9 rfl ?_
        refine a_iconst (v := 1) dX0_remember_53 (by decide) ?_
        refine a_iadd dX0_remember_54 ?_
        refine a_putI dX0_remember_55 (Or.inl ⟨fl_0_35, Or.inl rfl⟩) rfl ga8 gs9 rfl rfl ?_
        exact a_vret dX0_remember_58 rfl (hR _ _ h)
noncomputable def b_X0_remember (n : Nat) (a0 : Nat) (j1 : Int64) (j3 : Int64) (M : Mem) : Option (Unit × Mem) := T_X0_remember_0 (fun v M => some (v, M)) none n a0 j1 j3 M
set_option maxHeartbeats 4000000 in
set_option maxRecDepth 100000 in
theorem sb_X0_remember {X : Nat × (Nat → Int32)} {al : Bool} {n : Nat} {a0 : Nat} {j1 : Int64} {j3 : Int64} {M : Mem} {v : Unit} {M1 : Mem} (h : b_X0_remember n a0 j1 j3 M = some (v, M1)) : AE yX0_remember cX0_remember 6 none al n X [.ref a0, .long j1, .long j3] M none M1 := by
  refine AM.of false (by decide +kernel) (by intro h; cases h) (Nat.le_of_ble_eq_true rfl) ?_
  have h2 : T_X0_remember_0 (fun v2 M2 => some (v2, M2) = some (v, M1)) (none = some (v, M1)) n a0 j1 j3 M := (n_X0_remember_0 (fun o => o = some (v, M1)) (fun v M => some (v, M)) none n a0 j1 j3 M).mp h
  have h3 : ((none : Option (Unit × Mem)) = some (v, M1)) = False := eq_false (by intro q; cases q)
  rw [h3] at h2
  exact w_X0_remember_0 (fun v2 M2 h => by cases h; exact ⟨rfl, rfl⟩) h2

noncomputable abbrev f_X0_remember := b_X0_remember
theorem s_X0_remember {X : Nat × (Nat → Int32)} {al : Bool} {n : Nat} {a0 : Nat} {j1 : Int64} {j3 : Int64} {M : Mem} {v : Unit} {M1 : Mem} (h : f_X0_remember n a0 j1 j3 M = some (v, M1)) : AE yX0_remember cX0_remember 6 none al n X [.ref a0, .long j1, .long j3] M none M1 := sb_X0_remember h
def ix_X0_close (c : Nat) : List Nat := if c = 0 then [0, 1, 3] else if c = 73 then [0, 3, 4] else if c = 135 then [0, 3, 4] else []
def PW_X0_close (X : Nat × (Nat → Int32)) (al : Bool) (n : Nat) (Q : Option Value → Mem → Prop) (c : Nat) (l : List Value) (M : Mem) : Prop := AW X (RX0, cX0_close, 10, (some .long), false, al, n) 0 0 c (List.zip (ix_X0_close c) l) (l.drop (ix_X0_close c).length) M Q
set_option maxHeartbeats 4000000 in
set_option maxRecDepth 100000 in
noncomputable def T_X0_close_0.{u} {α : Sort u} (J : Nat → List Value → Mem → α) (R : Int64 → Mem → α) (N : α) (cl : Nat → List Value → Mem → Option (Int64 × Mem)) (n : Nat) (a0 : Nat) (j1 : Int64) (x3 : Int32) (M : Mem) : α := gd (fO M a0 0) N (bnd2 (cal n (fun n => f_X0_saturate n a0 j1 M)) N (fun v3 M4 => gd (fO M4 a0 0) N (if (lg_cmp (v3 &&& (M4.2.2.2.1 a0 9)) 0) = 0 then if x3 ≤ 64 then bnd2 (cal n (fun n => f_X0_memoSpot n a0 v3 M4)) N (fun v12 M13 => if v12 < 0 then J 73 [.ref a0, .int x3, .long v3] M13 else if 8192 ≤ v12 then J 73 [.ref a0, .int x3, .long v3] M13 else gd (fO M13 a0 0) N (bnd (M13.2.2.2.2 a0 4) N (fun r21 => gd (fA M13 r21 2 v12) N (if (lg_cmp (M13.2.2.2.1 r21 (v12.toNatClampNeg)) 0) = 0 then J 73 [.ref a0, .int x3, .long v3] M13 else bnd (M13.2.2.2.2 a0 5) N (fun r28 => gd (fA M13 r28 2 v12) N (R (M13.2.2.2.1 r28 (v12.toNatClampNeg)) M13)))))) else R v3 M4 else R (-1) M4)))
set_option maxHeartbeats 4000000 in
set_option maxRecDepth 100000 in
theorem n_X0_close_0.{u, v} {α : Sort u} {β : Sort v} (h : α → β) (J : Nat → List Value → Mem → α) (R : Int64 → Mem → α) (N : α) (cl : Nat → List Value → Mem → Option (Int64 × Mem)) (n : Nat) (a0 : Nat) (j1 : Int64) (x3 : Int32) (M : Mem) : h (T_X0_close_0 J R N cl n a0 j1 x3 M) = T_X0_close_0 (fun c l M => h (J c l M)) (fun v M => h (R v M)) (h N) cl n a0 j1 x3 M := by
  simp only [T_X0_close_0, nat_ite h, nat_gd h, nat_bnd h, nat_bnd2 h]
set_option maxHeartbeats 4000000 in
set_option maxRecDepth 100000 in
theorem w_X0_close_0 {X : Nat × (Nat → Int32)} {al : Bool} {n : Nat} {Q : Option Value → Mem → Prop} {J : Nat → List Value → Mem → Prop} (hJ : ∀ c l M, J c l M → PW_X0_close X al n Q c l M) {R : Int64 → Mem → Prop} (hR : ∀ v M, R v M → Q (some (.long v)) M) {cl : Nat → List Value → Mem → Option (Int64 × Mem)} (hc_X0_close : ∀ {a0 : Nat} {j1 : Int64} {x3 : Int32} {M : Mem} {v : Int64} {M1 : Mem}, cl 0 [.ref a0, .long j1, .int x3] M = some (v, M1) → ∃ k, n = k + 1 ∧ AE yX0_close cX0_close 10 (some .long) al k X [.ref a0, .long j1, .int x3] M (some (.long v)) M1) (hc_X0_tryImps : ∀ {a0 : Nat} {j1 : Int64} {x3 : Int32} {M : Mem} {v : Int64} {M1 : Mem}, cl 1 [.ref a0, .long j1, .int x3] M = some (v, M1) → ∃ k, n = k + 1 ∧ AE yX0_tryImps cX0_tryImps 12 (some .long) al k X [.ref a0, .long j1, .int x3] M (some (.long v)) M1) {a0 : Nat} {j1 : Int64} {x3 : Int32} {M : Mem} (h : T_X0_close_0 J R False cl n a0 j1 x3 M) : AW X (RX0, cX0_close, 10, (some .long), false, al, n) 0 0 0 [(0, .ref a0), (1, .long j1), (3, .int x3)] [] M Q := by
  unfold T_X0_close_0 at h
  refine a_aload_n dX0_close_0 rfl rfl ?_
  refine a_lload_n dX0_close_1 rfl rfl ?_
  obtain ⟨⟨ga1, gs2⟩, h⟩ := gd_t h
  obtain ⟨v3, M4, e5, h⟩ := bnd2_t h
  obtain ⟨n6, en7, e5⟩ := cal_t e5
  refine e_callV (As := [.long j1]) (st := []) (a := a0) (ci := 0) false dX0_close_2 mw_X0_saturate (Or.inl ⟨rfl, ml_X0_92⟩) im_X0_saturate se_X0_saturate (by decide) ga1 gs2 rfl (Nat.le_of_ble_eq_true rfl) en7 (s_X0_saturate e5) ?_
  refine a_lstore dX0_close_5 (Nat.le_of_ble_eq_true rfl) (lv2 := [(4, .long v3), (0, .ref a0), (1, .long j1), (3, .int x3)]) rfl ?_
  refine a_lload dX0_close_7 rfl ?_
  refine a_aload_n dX0_close_9 rfl rfl ?_
  obtain ⟨⟨ga8, gs9⟩, h⟩ := gd_t h
  refine a_get (v := .long (M4.2.2.2.1 a0 9)) dX0_close_10 fl_0_80 ga8 gs9 rfl ?_
  refine a_land dX0_close_13 ?_
  refine a_lconst (v := 0) dX0_close_14 (by decide) ?_
  refine a_lcmp dX0_close_15 ?_
  refine a_if_eq 23 dX0_close_16 (by decide) (fun c10 => ?_) (fun c10 => ?_)
  · replace h := ite_t c10 h
    refine a_iload_n dX0_close_23 rfl rfl ?_
    refine a_bipush (v := 64) dX0_close_24 (by decide) ?_
    refine a_icmp_le 32 dX0_close_26 (by decide) (fun c11 => ?_) (fun c11 => ?_)
    · replace h := ite_t c11 h
      refine a_aload_n dX0_close_32 rfl rfl ?_
      refine a_lload dX0_close_33 rfl ?_
      obtain ⟨v12, M13, e14, h⟩ := bnd2_t h
      obtain ⟨n15, en16, e14⟩ := cal_t e14
      refine e_callV (As := [.long v3]) (st := []) (a := a0) (ci := 0) false dX0_close_35 mw_X0_memoSpot (Or.inl ⟨rfl, ml_X0_97⟩) im_X0_memoSpot se_X0_memoSpot (by decide) ga8 gs9 rfl (Nat.le_of_ble_eq_true rfl) en16 (s_X0_memoSpot e14) ?_
      refine a_istore dX0_close_38 (Nat.le_of_ble_eq_true rfl) (lv2 := [(6, .int v12), (4, .long v3), (0, .ref a0), (1, .long j1), (3, .int x3)]) rfl ?_
      refine a_iload dX0_close_40 rfl ?_
      refine a_if_lt 73 dX0_close_42 (by decide) (fun c17 => ?_) (fun c17 => ?_)
      · replace h := ite_t c17 h
        exact a_lv (lv2 := [(0, .ref a0), (3, .int x3), (4, .long v3)]) (fa_cons rfl (fa_cons rfl (fa_cons rfl fa_nil))) (hJ _ _ _ h)
      · replace h := ite_f c17 h
        refine a_iload dX0_close_45 rfl ?_
        refine a_sipush (v := 8192) dX0_close_47 (by decide) ?_
        refine a_icmp_ge 73 dX0_close_50 (by decide) (fun c18 => ?_) (fun c18 => ?_)
        · replace h := ite_t c18 h
          exact a_lv (lv2 := [(0, .ref a0), (3, .int x3), (4, .long v3)]) (fa_cons rfl (fa_cons rfl (fa_cons rfl fa_nil))) (hJ _ _ _ h)
        · replace h := ite_f c18 h
          refine a_aload_n dX0_close_53 rfl rfl ?_
          obtain ⟨⟨ga19, gs20⟩, h⟩ := gd_t h
          obtain ⟨r21, e22, h⟩ := bnd_t h
          refine a_get (v := .ref r21) dX0_close_54 fl_0_22 ga19 gs20 (gvR e22 rfl) ?_
          refine a_iload dX0_close_57 rfl ?_
          obtain ⟨⟨ga23, gn24, gs25, gi26⟩, h⟩ := gd_t h
          refine a_laload dX0_close_59 ga23 gs25 gi26 ?_
          refine a_lconst (v := 0) dX0_close_60 (by decide) ?_
          refine a_lcmp dX0_close_61 ?_
          refine a_if_eq 73 dX0_close_62 (by decide) (fun c27 => ?_) (fun c27 => ?_)
          · replace h := ite_t c27 h
            exact a_lv (lv2 := [(0, .ref a0), (3, .int x3), (4, .long v3)]) (fa_cons rfl (fa_cons rfl (fa_cons rfl fa_nil))) (hJ _ _ _ h)
          · replace h := ite_f c27 h
            refine a_aload_n dX0_close_65 rfl rfl ?_
            obtain ⟨r28, e29, h⟩ := bnd_t h
            refine a_get (v := .ref r28) dX0_close_66 fl_0_25 ga19 gs20 (gvR e29 rfl) ?_
            refine a_iload dX0_close_69 rfl ?_
            obtain ⟨⟨ga30, gn31, gs32, gi33⟩, h⟩ := gd_t h
            refine a_laload dX0_close_71 ga30 gs32 gi33 ?_
            exact a_lret dX0_close_72 rfl (hR _ _ h)
    · replace h := ite_f c11 h
      refine a_lload dX0_close_29 rfl ?_
      exact a_lret dX0_close_31 rfl (hR _ _ h)
  · replace h := ite_f c10 h
    refine a_ldc2 dX0_close_19 co_X0_95 ?_
    exact a_lret dX0_close_22 rfl (hR _ _ h)
set_option maxHeartbeats 4000000 in
set_option maxRecDepth 100000 in
noncomputable def T_X0_close_73.{u} {α : Sort u} (J : Nat → List Value → Mem → α) (R : Int64 → Mem → α) (N : α) (cl : Nat → List Value → Mem → Option (Int64 × Mem)) (n : Nat) (a0 : Nat) (x3 : Int32) (j4 : Int64) (M : Mem) : α := gd (fO M a0 0) N (bnd2 (cal n (fun n => f_X0_openOr n a0 j4 M)) N (fun v3 M4 => if v3 < 0 then J 135 [.ref a0, .int x3, .long j4] M4 else gd (fO M4 a0 0) N (if (M4.2.2.1 a0 7) ≤ v3 then J 135 [.ref a0, .int x3, .long j4] M4 else bnd (M4.2.2.2.2 a0 2) N (fun r12 => gd (fA M4 r12 2 v3) N (bnd2 (cl 0 [.ref a0, .long (j4 ||| (M4.2.2.2.1 r12 (v3.toNatClampNeg))), .int (x3 + 1)] M4) N (fun v18 M19 => gd (fO M19 a0 0) N (bnd (M19.2.2.2.2 a0 3) N (fun r25 => gd (fA M19 r25 2 v3) N (bnd2 (cl 0 [.ref a0, .long (j4 ||| (M19.2.2.2.1 r25 (v3.toNatClampNeg))), .int (x3 + 1)] M19) N (fun v31 M32 => gd (fO M32 a0 0) N (bnd2 (cal n (fun n => f_X0_remember n a0 j4 (v18 &&& v31) M32)) N (fun _ M38 => R (v18 &&& v31) M38))))))))))))
set_option maxHeartbeats 4000000 in
set_option maxRecDepth 100000 in
theorem n_X0_close_73.{u, v} {α : Sort u} {β : Sort v} (h : α → β) (J : Nat → List Value → Mem → α) (R : Int64 → Mem → α) (N : α) (cl : Nat → List Value → Mem → Option (Int64 × Mem)) (n : Nat) (a0 : Nat) (x3 : Int32) (j4 : Int64) (M : Mem) : h (T_X0_close_73 J R N cl n a0 x3 j4 M) = T_X0_close_73 (fun c l M => h (J c l M)) (fun v M => h (R v M)) (h N) cl n a0 x3 j4 M := by
  simp only [T_X0_close_73, nat_ite h, nat_gd h, nat_bnd h, nat_bnd2 h]
set_option maxHeartbeats 4000000 in
set_option maxRecDepth 100000 in
theorem w_X0_close_73 {X : Nat × (Nat → Int32)} {al : Bool} {n : Nat} {Q : Option Value → Mem → Prop} {J : Nat → List Value → Mem → Prop} (hJ : ∀ c l M, J c l M → PW_X0_close X al n Q c l M) {R : Int64 → Mem → Prop} (hR : ∀ v M, R v M → Q (some (.long v)) M) {cl : Nat → List Value → Mem → Option (Int64 × Mem)} (hc_X0_close : ∀ {a0 : Nat} {j1 : Int64} {x3 : Int32} {M : Mem} {v : Int64} {M1 : Mem}, cl 0 [.ref a0, .long j1, .int x3] M = some (v, M1) → ∃ k, n = k + 1 ∧ AE yX0_close cX0_close 10 (some .long) al k X [.ref a0, .long j1, .int x3] M (some (.long v)) M1) (hc_X0_tryImps : ∀ {a0 : Nat} {j1 : Int64} {x3 : Int32} {M : Mem} {v : Int64} {M1 : Mem}, cl 1 [.ref a0, .long j1, .int x3] M = some (v, M1) → ∃ k, n = k + 1 ∧ AE yX0_tryImps cX0_tryImps 12 (some .long) al k X [.ref a0, .long j1, .int x3] M (some (.long v)) M1) {a0 : Nat} {x3 : Int32} {j4 : Int64} {M : Mem} (h : T_X0_close_73 J R False cl n a0 x3 j4 M) : AW X (RX0, cX0_close, 10, (some .long), false, al, n) 0 0 73 [(0, .ref a0), (3, .int x3), (4, .long j4)] [] M Q := by
  unfold T_X0_close_73 at h
  refine a_aload_n dX0_close_73 rfl rfl ?_
  refine a_lload dX0_close_74 rfl ?_
  obtain ⟨⟨ga1, gs2⟩, h⟩ := gd_t h
  obtain ⟨v3, M4, e5, h⟩ := bnd2_t h
  obtain ⟨n6, en7, e5⟩ := cal_t e5
  refine e_callV (As := [.long j4]) (st := []) (a := a0) (ci := 0) false dX0_close_76 mw_X0_openOr (Or.inl ⟨rfl, ml_X0_101⟩) im_X0_openOr se_X0_openOr (by decide) ga1 gs2 rfl (Nat.le_of_ble_eq_true rfl) en7 (s_X0_openOr e5) ?_
  refine a_istore dX0_close_79 (Nat.le_of_ble_eq_true rfl) (lv2 := [(7, .int v3), (0, .ref a0), (3, .int x3), (4, .long j4)]) rfl ?_
  refine a_iload dX0_close_81 rfl ?_
  refine a_if_lt 135 dX0_close_83 (by decide) (fun c8 => ?_) (fun c8 => ?_)
  · replace h := ite_t c8 h
    exact a_lv (lv2 := [(0, .ref a0), (3, .int x3), (4, .long j4)]) (fa_cons rfl (fa_cons rfl (fa_cons rfl fa_nil))) (hJ _ _ _ h)
  · replace h := ite_f c8 h
    refine a_iload dX0_close_86 rfl ?_
    refine a_aload_n dX0_close_88 rfl rfl ?_
    obtain ⟨⟨ga9, gs10⟩, h⟩ := gd_t h
    refine a_get (v := .int (M4.2.2.1 a0 7)) dX0_close_89 fl_0_79 ga9 gs10 rfl ?_
    refine a_icmp_ge 135 dX0_close_92 (by decide) (fun c11 => ?_) (fun c11 => ?_)
    · replace h := ite_t c11 h
      exact a_lv (lv2 := [(0, .ref a0), (3, .int x3), (4, .long j4)]) (fa_cons rfl (fa_cons rfl (fa_cons rfl fa_nil))) (hJ _ _ _ h)
    · replace h := ite_f c11 h
      refine a_aload_n dX0_close_95 rfl rfl ?_
      refine a_lload dX0_close_96 rfl ?_
      refine a_aload_n dX0_close_98 rfl rfl ?_
      obtain ⟨r12, e13, h⟩ := bnd_t h
      refine a_get (v := .ref r12) dX0_close_99 fl_0_15 ga9 gs10 (gvR e13 rfl) ?_
      refine a_iload dX0_close_102 rfl ?_
      obtain ⟨⟨ga14, gn15, gs16, gi17⟩, h⟩ := gd_t h
      refine a_laload dX0_close_104 ga14 gs16 gi17 ?_
      refine a_lor dX0_close_105 ?_
      refine a_iload_n dX0_close_106 rfl rfl ?_
      refine a_iconst (v := 1) dX0_close_107 (by decide) ?_
      refine a_iadd dX0_close_108 ?_
      obtain ⟨v18, M19, e20, h⟩ := bnd2_t h
      obtain ⟨n21, en22, e20⟩ := hc_X0_close e20
      refine e_callV (As := [.long (j4 ||| (M4.2.2.2.1 r12 (v3.toNatClampNeg))), .int (x3 + 1)]) (st := []) (a := a0) (ci := 0) false dX0_close_109 mw_X0_close (Or.inl ⟨rfl, ml_X0_68⟩) im_X0_close se_X0_close (by decide) ga9 gs10 rfl (Nat.le_of_ble_eq_true rfl) en22 e20 ?_
      refine a_aload_n dX0_close_112 rfl rfl ?_
      refine a_lload dX0_close_113 rfl ?_
      refine a_aload_n dX0_close_115 rfl rfl ?_
      obtain ⟨⟨ga23, gs24⟩, h⟩ := gd_t h
      obtain ⟨r25, e26, h⟩ := bnd_t h
      refine a_get (v := .ref r25) dX0_close_116 fl_0_19 ga23 gs24 (gvR e26 rfl) ?_
      refine a_iload dX0_close_119 rfl ?_
      obtain ⟨⟨ga27, gn28, gs29, gi30⟩, h⟩ := gd_t h
      refine a_laload dX0_close_121 ga27 gs29 gi30 ?_
      refine a_lor dX0_close_122 ?_
      refine a_iload_n dX0_close_123 rfl rfl ?_
      refine a_iconst (v := 1) dX0_close_124 (by decide) ?_
      refine a_iadd dX0_close_125 ?_
      obtain ⟨v31, M32, e33, h⟩ := bnd2_t h
      obtain ⟨n34, en35, e33⟩ := hc_X0_close e33
      refine e_callV (As := [.long (j4 ||| (M19.2.2.2.1 r25 (v3.toNatClampNeg))), .int (x3 + 1)]) (st := [.long v18]) (a := a0) (ci := 0) false dX0_close_126 mw_X0_close (Or.inl ⟨rfl, ml_X0_68⟩) im_X0_close se_X0_close (by decide) ga23 gs24 rfl (Nat.le_of_ble_eq_true rfl) en35 e33 ?_
      refine a_land dX0_close_129 ?_
      refine a_lstore dX0_close_130 (Nat.le_of_ble_eq_true rfl) (lv2 := [(8, .long (v18 &&& v31)), (7, .int v3), (0, .ref a0), (3, .int x3), (4, .long j4)]) rfl ?_
      refine a_goto 144 dX0_close_132 (by decide) ?_
      refine a_aload_n dX0_close_144 rfl rfl ?_
      refine a_lload dX0_close_145 rfl ?_
      refine a_lload dX0_close_147 rfl ?_
      obtain ⟨⟨ga36, gs37⟩, h⟩ := gd_t h
      obtain ⟨_, M38, e39, h⟩ := bnd2_t h
      obtain ⟨n40, en41, e39⟩ := cal_t e39
      refine e_callV (As := [.long j4, .long (v18 &&& v31)]) (st := []) (a := a0) (ci := 0) false dX0_close_149 mw_X0_remember (Or.inl ⟨rfl, ml_X0_107⟩) im_X0_remember se_X0_remember (by decide) ga36 gs37 rfl (Nat.le_of_ble_eq_true rfl) en41 (s_X0_remember e39) ?_
      refine a_lload dX0_close_152 rfl ?_
      exact a_lret dX0_close_154 rfl (hR _ _ h)
set_option maxHeartbeats 4000000 in
set_option maxRecDepth 100000 in
noncomputable def T_X0_close_135.{u} {α : Sort u} (J : Nat → List Value → Mem → α) (R : Int64 → Mem → α) (N : α) (cl : Nat → List Value → Mem → Option (Int64 × Mem)) (n : Nat) (a0 : Nat) (x3 : Int32) (j4 : Int64) (M : Mem) : α := gd (fO M a0 0) N (bnd2 (cl 1 [.ref a0, .long j4, .int x3] M) N (fun v3 M4 => gd (fO M4 a0 0) N (bnd2 (cal n (fun n => f_X0_remember n a0 j4 v3 M4)) N (fun _ M10 => R v3 M10))))
set_option maxHeartbeats 4000000 in
set_option maxRecDepth 100000 in
theorem n_X0_close_135.{u, v} {α : Sort u} {β : Sort v} (h : α → β) (J : Nat → List Value → Mem → α) (R : Int64 → Mem → α) (N : α) (cl : Nat → List Value → Mem → Option (Int64 × Mem)) (n : Nat) (a0 : Nat) (x3 : Int32) (j4 : Int64) (M : Mem) : h (T_X0_close_135 J R N cl n a0 x3 j4 M) = T_X0_close_135 (fun c l M => h (J c l M)) (fun v M => h (R v M)) (h N) cl n a0 x3 j4 M := by
  simp only [T_X0_close_135, nat_ite h, nat_gd h, nat_bnd h, nat_bnd2 h]
set_option maxHeartbeats 4000000 in
set_option maxRecDepth 100000 in
theorem w_X0_close_135 {X : Nat × (Nat → Int32)} {al : Bool} {n : Nat} {Q : Option Value → Mem → Prop} {J : Nat → List Value → Mem → Prop} (hJ : ∀ c l M, J c l M → PW_X0_close X al n Q c l M) {R : Int64 → Mem → Prop} (hR : ∀ v M, R v M → Q (some (.long v)) M) {cl : Nat → List Value → Mem → Option (Int64 × Mem)} (hc_X0_close : ∀ {a0 : Nat} {j1 : Int64} {x3 : Int32} {M : Mem} {v : Int64} {M1 : Mem}, cl 0 [.ref a0, .long j1, .int x3] M = some (v, M1) → ∃ k, n = k + 1 ∧ AE yX0_close cX0_close 10 (some .long) al k X [.ref a0, .long j1, .int x3] M (some (.long v)) M1) (hc_X0_tryImps : ∀ {a0 : Nat} {j1 : Int64} {x3 : Int32} {M : Mem} {v : Int64} {M1 : Mem}, cl 1 [.ref a0, .long j1, .int x3] M = some (v, M1) → ∃ k, n = k + 1 ∧ AE yX0_tryImps cX0_tryImps 12 (some .long) al k X [.ref a0, .long j1, .int x3] M (some (.long v)) M1) {a0 : Nat} {x3 : Int32} {j4 : Int64} {M : Mem} (h : T_X0_close_135 J R False cl n a0 x3 j4 M) : AW X (RX0, cX0_close, 10, (some .long), false, al, n) 0 0 135 [(0, .ref a0), (3, .int x3), (4, .long j4)] [] M Q := by
  unfold T_X0_close_135 at h
  refine a_aload_n dX0_close_135 rfl rfl ?_
  refine a_lload dX0_close_136 rfl ?_
  refine a_iload_n dX0_close_138 rfl rfl ?_
  obtain ⟨⟨ga1, gs2⟩, h⟩ := gd_t h
  obtain ⟨v3, M4, e5, h⟩ := bnd2_t h
  obtain ⟨n6, en7, e5⟩ := hc_X0_tryImps e5
  refine e_callV (As := [.long j4, .int x3]) (st := []) (a := a0) (ci := 0) false dX0_close_139 mw_X0_tryImps (Or.inl ⟨rfl, ml_X0_104⟩) im_X0_tryImps se_X0_tryImps (by decide) ga1 gs2 rfl (Nat.le_of_ble_eq_true rfl) en7 e5 ?_
  refine a_lstore dX0_close_142 (Nat.le_of_ble_eq_true rfl) (lv2 := [(8, .long v3), (0, .ref a0), (3, .int x3), (4, .long j4)]) rfl ?_
  refine a_aload_n dX0_close_144 rfl rfl ?_
  refine a_lload dX0_close_145 rfl ?_
  refine a_lload dX0_close_147 rfl ?_
  obtain ⟨⟨ga8, gs9⟩, h⟩ := gd_t h
  obtain ⟨_, M10, e11, h⟩ := bnd2_t h
  obtain ⟨n12, en13, e11⟩ := cal_t e11
  refine e_callV (As := [.long j4, .long v3]) (st := []) (a := a0) (ci := 0) false dX0_close_149 mw_X0_remember (Or.inl ⟨rfl, ml_X0_107⟩) im_X0_remember se_X0_remember (by decide) ga8 gs9 rfl (Nat.le_of_ble_eq_true rfl) en13 (s_X0_remember e11) ?_
  refine a_lload dX0_close_152 rfl ?_
  exact a_lret dX0_close_154 rfl (hR _ _ h)
set_option maxHeartbeats 4000000 in
set_option maxRecDepth 100000 in
noncomputable def st_X0_close (cl : Nat → List Value → Mem → Option (Int64 × Mem)) (n : Nat) (s : Sg) : Option (Sg ⊕ (Int64 × Mem)) := if s.1 = 0 then vR s.2.1 none (fun a0 t => vJ t none (fun j1 t => vI t none (fun x3 t => vE t none (T_X0_close_0 (fun c l M => some (.inl (c, l, M))) (fun v M => some (.inr (v, M))) none cl n a0 j1 x3 s.2.2)))) else if s.1 = 73 then vR s.2.1 none (fun a0 t => vI t none (fun x3 t => vJ t none (fun j4 t => vE t none (T_X0_close_73 (fun c l M => some (.inl (c, l, M))) (fun v M => some (.inr (v, M))) none cl n a0 x3 j4 s.2.2)))) else if s.1 = 135 then vR s.2.1 none (fun a0 t => vI t none (fun x3 t => vJ t none (fun j4 t => vE t none (T_X0_close_135 (fun c l M => some (.inl (c, l, M))) (fun v M => some (.inr (v, M))) none cl n a0 x3 j4 s.2.2)))) else none
noncomputable abbrev g_X0_close_0 (cl : Nat → List Value → Mem → Option (Int64 × Mem)) (n : Nat) (a0 : Nat) (j1 : Int64) (x3 : Int32) (M : Mem) : Option (Int64 × Mem) := lp (st_X0_close cl n) (0, [.ref a0, .long j1, .int x3], M)
set_option maxHeartbeats 4000000 in
set_option maxRecDepth 100000 in
theorem ge_X0_close_0 (cl : Nat → List Value → Mem → Option (Int64 × Mem)) (n : Nat) (a0 : Nat) (j1 : Int64) (x3 : Int32) (M : Mem) : g_X0_close_0 cl n a0 j1 x3 M = T_X0_close_0 (fun c l M => lp (st_X0_close cl n) (c, l, M)) (fun v M => some (v, M)) none cl n a0 j1 x3 M := (lp_eq _ _).trans (n_X0_close_0 (lpK (st_X0_close cl n)) (fun c l M => some (.inl (c, l, M))) (fun v M => some (.inr (v, M))) none cl n a0 j1 x3 M)
noncomputable abbrev g_X0_close_73 (cl : Nat → List Value → Mem → Option (Int64 × Mem)) (n : Nat) (a0 : Nat) (x3 : Int32) (j4 : Int64) (M : Mem) : Option (Int64 × Mem) := lp (st_X0_close cl n) (73, [.ref a0, .int x3, .long j4], M)
set_option maxHeartbeats 4000000 in
set_option maxRecDepth 100000 in
theorem ge_X0_close_73 (cl : Nat → List Value → Mem → Option (Int64 × Mem)) (n : Nat) (a0 : Nat) (x3 : Int32) (j4 : Int64) (M : Mem) : g_X0_close_73 cl n a0 x3 j4 M = T_X0_close_73 (fun c l M => lp (st_X0_close cl n) (c, l, M)) (fun v M => some (v, M)) none cl n a0 x3 j4 M := (lp_eq _ _).trans (n_X0_close_73 (lpK (st_X0_close cl n)) (fun c l M => some (.inl (c, l, M))) (fun v M => some (.inr (v, M))) none cl n a0 x3 j4 M)
noncomputable abbrev g_X0_close_135 (cl : Nat → List Value → Mem → Option (Int64 × Mem)) (n : Nat) (a0 : Nat) (x3 : Int32) (j4 : Int64) (M : Mem) : Option (Int64 × Mem) := lp (st_X0_close cl n) (135, [.ref a0, .int x3, .long j4], M)
set_option maxHeartbeats 4000000 in
set_option maxRecDepth 100000 in
theorem ge_X0_close_135 (cl : Nat → List Value → Mem → Option (Int64 × Mem)) (n : Nat) (a0 : Nat) (x3 : Int32) (j4 : Int64) (M : Mem) : g_X0_close_135 cl n a0 x3 j4 M = T_X0_close_135 (fun c l M => lp (st_X0_close cl n) (c, l, M)) (fun v M => some (v, M)) none cl n a0 x3 j4 M := (lp_eq _ _).trans (n_X0_close_135 (lpK (st_X0_close cl n)) (fun c l M => some (.inl (c, l, M))) (fun v M => some (.inr (v, M))) none cl n a0 x3 j4 M)
noncomputable def b_X0_close (cl : Nat → List Value → Mem → Option (Int64 × Mem)) (n : Nat) (a0 : Nat) (j1 : Int64) (x3 : Int32) (M : Mem) : Option (Int64 × Mem) := g_X0_close_0 cl n a0 j1 x3 M
set_option maxHeartbeats 4000000 in
set_option maxRecDepth 100000 in
theorem sb_X0_close {X : Nat × (Nat → Int32)} {al : Bool} {n : Nat} {cl : Nat → List Value → Mem → Option (Int64 × Mem)} (hc_X0_close : ∀ {a0 : Nat} {j1 : Int64} {x3 : Int32} {M : Mem} {v : Int64} {M1 : Mem}, cl 0 [.ref a0, .long j1, .int x3] M = some (v, M1) → ∃ k, n = k + 1 ∧ AE yX0_close cX0_close 10 (some .long) al k X [.ref a0, .long j1, .int x3] M (some (.long v)) M1) (hc_X0_tryImps : ∀ {a0 : Nat} {j1 : Int64} {x3 : Int32} {M : Mem} {v : Int64} {M1 : Mem}, cl 1 [.ref a0, .long j1, .int x3] M = some (v, M1) → ∃ k, n = k + 1 ∧ AE yX0_tryImps cX0_tryImps 12 (some .long) al k X [.ref a0, .long j1, .int x3] M (some (.long v)) M1) {a0 : Nat} {j1 : Int64} {x3 : Int32} {M : Mem} {v : Int64} {M1 : Mem} (h : b_X0_close cl n a0 j1 x3 M = some (v, M1)) : AE yX0_close cX0_close 10 (some .long) al n X [.ref a0, .long j1, .int x3] M (some (.long v)) M1 := by
  refine AM.of false (by decide +kernel) (by intro h; cases h) (Nat.le_of_ble_eq_true rfl) ?_
  refine lp_snd (P := fun s r => PW_X0_close X al n (fun v M2 => v = (some (.long r.1)) ∧ M2 = r.2) s.1 s.2.1 s.2.2) ?_ h
  clear h
  rintro ⟨c, l, M⟩ r h
  unfold st_X0_close at h
  rcases ite_p h with ⟨e, h⟩ | ⟨e, h⟩
  · replace e : c = 0 := e
    subst e
    obtain ⟨a0, tt0, e, h⟩ := vR_p id h
    replace e : l = _ := e
    subst e
    obtain ⟨j1, tt1, e, h⟩ := vJ_p id h
    replace e : tt0 = _ := e
    subst e
    obtain ⟨x3, tt2, e, h⟩ := vI_p id h
    replace e : tt1 = _ := e
    subst e
    obtain ⟨e, h⟩ := vE_p id h
    replace e : tt2 = [] := e
    subst e
    exact w_X0_close_0 (J := fun c l M => PW_X0_close X al n (fun v M2 => v = (some (.long r.1)) ∧ M2 = r.2) c l M) (R := fun v M => (v, M) = r) (fun _ _ _ h => h) (fun v M h => by cases h; exact ⟨rfl, rfl⟩) hc_X0_close hc_X0_tryImps ((n_X0_close_0 (lpP (fun (s : Sg) (r : Int64 × Mem) => PW_X0_close X al n (fun v M2 => v = (some (.long r.1)) ∧ M2 = r.2) s.1 s.2.1 s.2.2) r) (fun c l M => some (.inl (c, l, M))) (fun v M => some (.inr (v, M))) none cl n a0 j1 x3 M).mp h)
  rcases ite_p h with ⟨e, h⟩ | ⟨e, h⟩
  · replace e : c = 73 := e
    subst e
    obtain ⟨a0, tt0, e, h⟩ := vR_p id h
    replace e : l = _ := e
    subst e
    obtain ⟨x3, tt1, e, h⟩ := vI_p id h
    replace e : tt0 = _ := e
    subst e
    obtain ⟨j4, tt2, e, h⟩ := vJ_p id h
    replace e : tt1 = _ := e
    subst e
    obtain ⟨e, h⟩ := vE_p id h
    replace e : tt2 = [] := e
    subst e
    exact w_X0_close_73 (J := fun c l M => PW_X0_close X al n (fun v M2 => v = (some (.long r.1)) ∧ M2 = r.2) c l M) (R := fun v M => (v, M) = r) (fun _ _ _ h => h) (fun v M h => by cases h; exact ⟨rfl, rfl⟩) hc_X0_close hc_X0_tryImps ((n_X0_close_73 (lpP (fun (s : Sg) (r : Int64 × Mem) => PW_X0_close X al n (fun v M2 => v = (some (.long r.1)) ∧ M2 = r.2) s.1 s.2.1 s.2.2) r) (fun c l M => some (.inl (c, l, M))) (fun v M => some (.inr (v, M))) none cl n a0 x3 j4 M).mp h)
  rcases ite_p h with ⟨e, h⟩ | ⟨e, h⟩
  · replace e : c = 135 := e
    subst e
    obtain ⟨a0, tt0, e, h⟩ := vR_p id h
    replace e : l = _ := e
    subst e
    obtain ⟨x3, tt1, e, h⟩ := vI_p id h
    replace e : tt0 = _ := e
    subst e
    obtain ⟨j4, tt2, e, h⟩ := vJ_p id h
    replace e : tt1 = _ := e
    subst e
    obtain ⟨e, h⟩ := vE_p id h
    replace e : tt2 = [] := e
    subst e
    exact w_X0_close_135 (J := fun c l M => PW_X0_close X al n (fun v M2 => v = (some (.long r.1)) ∧ M2 = r.2) c l M) (R := fun v M => (v, M) = r) (fun _ _ _ h => h) (fun v M h => by cases h; exact ⟨rfl, rfl⟩) hc_X0_close hc_X0_tryImps ((n_X0_close_135 (lpP (fun (s : Sg) (r : Int64 × Mem) => PW_X0_close X al n (fun v M2 => v = (some (.long r.1)) ∧ M2 = r.2) s.1 s.2.1 s.2.2) r) (fun c l M => some (.inl (c, l, M))) (fun v M => some (.inr (v, M))) none cl n a0 x3 j4 M).mp h)
  · exact h.elim

def ix_X0_tryImps (c : Nat) : List Nat := if c = 0 then [0, 1, 3] else if c = 17 then [0, 3, 4, 6, 8, 9] else if c = 91 then [0, 3, 4, 6, 8, 9, 10] else []
def PW_X0_tryImps (X : Nat × (Nat → Int32)) (al : Bool) (n : Nat) (Q : Option Value → Mem → Prop) (c : Nat) (l : List Value) (M : Mem) : Prop := AW X (RX0, cX0_tryImps, 12, (some .long), false, al, n) 0 0 c (List.zip (ix_X0_tryImps c) l) (l.drop (ix_X0_tryImps c).length) M Q
set_option maxHeartbeats 4000000 in
set_option maxRecDepth 100000 in
noncomputable def T_X0_tryImps_0.{u} {α : Sort u} (J : Nat → List Value → Mem → α) (R : Int64 → Mem → α) (N : α) (cl : Nat → List Value → Mem → Option (Int64 × Mem)) (n : Nat) (a0 : Nat) (j1 : Int64) (x3 : Int32) (M : Mem) : α := gd (fO M a0 0) N (bnd2 (cal n (fun n => f_X0_mattering n a0 j1 M)) N (fun v3 M4 => J 17 [.ref a0, .int x3, .long j1, .long v3, .int 0, .int 0] M4))
set_option maxHeartbeats 4000000 in
set_option maxRecDepth 100000 in
theorem n_X0_tryImps_0.{u, v} {α : Sort u} {β : Sort v} (h : α → β) (J : Nat → List Value → Mem → α) (R : Int64 → Mem → α) (N : α) (cl : Nat → List Value → Mem → Option (Int64 × Mem)) (n : Nat) (a0 : Nat) (j1 : Int64) (x3 : Int32) (M : Mem) : h (T_X0_tryImps_0 J R N cl n a0 j1 x3 M) = T_X0_tryImps_0 (fun c l M => h (J c l M)) (fun v M => h (R v M)) (h N) cl n a0 j1 x3 M := by
  simp only [T_X0_tryImps_0, nat_ite h, nat_gd h, nat_bnd h, nat_bnd2 h]
set_option maxHeartbeats 4000000 in
set_option maxRecDepth 100000 in
theorem w_X0_tryImps_0 {X : Nat × (Nat → Int32)} {al : Bool} {n : Nat} {Q : Option Value → Mem → Prop} {J : Nat → List Value → Mem → Prop} (hJ : ∀ c l M, J c l M → PW_X0_tryImps X al n Q c l M) {R : Int64 → Mem → Prop} (hR : ∀ v M, R v M → Q (some (.long v)) M) {cl : Nat → List Value → Mem → Option (Int64 × Mem)} (hc_X0_close : ∀ {a0 : Nat} {j1 : Int64} {x3 : Int32} {M : Mem} {v : Int64} {M1 : Mem}, cl 0 [.ref a0, .long j1, .int x3] M = some (v, M1) → ∃ k, n = k + 1 ∧ AE yX0_close cX0_close 10 (some .long) al k X [.ref a0, .long j1, .int x3] M (some (.long v)) M1) (hc_X0_tryImps : ∀ {a0 : Nat} {j1 : Int64} {x3 : Int32} {M : Mem} {v : Int64} {M1 : Mem}, cl 1 [.ref a0, .long j1, .int x3] M = some (v, M1) → ∃ k, n = k + 1 ∧ AE yX0_tryImps cX0_tryImps 12 (some .long) al k X [.ref a0, .long j1, .int x3] M (some (.long v)) M1) {a0 : Nat} {j1 : Int64} {x3 : Int32} {M : Mem} (h : T_X0_tryImps_0 J R False cl n a0 j1 x3 M) : AW X (RX0, cX0_tryImps, 12, (some .long), false, al, n) 0 0 0 [(0, .ref a0), (1, .long j1), (3, .int x3)] [] M Q := by
  unfold T_X0_tryImps_0 at h
  refine a_lload_n dX0_tryImps_0 rfl rfl ?_
  refine a_lstore dX0_tryImps_1 (Nat.le_of_ble_eq_true rfl) (lv2 := [(4, .long j1), (0, .ref a0), (1, .long j1), (3, .int x3)]) rfl ?_
  refine a_aload_n dX0_tryImps_3 rfl rfl ?_
  refine a_lload dX0_tryImps_4 rfl ?_
  obtain ⟨⟨ga1, gs2⟩, h⟩ := gd_t h
  obtain ⟨v3, M4, e5, h⟩ := bnd2_t h
  obtain ⟨n6, en7, e5⟩ := cal_t e5
  refine e_callV (As := [.long j1]) (st := []) (a := a0) (ci := 0) false dX0_tryImps_6 mw_X0_mattering (Or.inl ⟨rfl, ml_X0_111⟩) im_X0_mattering se_X0_mattering (by decide) ga1 gs2 rfl (Nat.le_of_ble_eq_true rfl) en7 (s_X0_mattering e5) ?_
  refine a_lstore dX0_tryImps_9 (Nat.le_of_ble_eq_true rfl) (lv2 := [(6, .long v3), (4, .long j1), (0, .ref a0), (1, .long j1), (3, .int x3)]) rfl ?_
  refine a_iconst (v := 0) dX0_tryImps_11 (by decide) ?_
  refine a_istore dX0_tryImps_12 (Nat.le_of_ble_eq_true rfl) (lv2 := [(8, .int 0), (6, .long v3), (4, .long j1), (0, .ref a0), (1, .long j1), (3, .int x3)]) rfl ?_
  refine a_iconst (v := 0) dX0_tryImps_14 (by decide) ?_
  refine a_istore dX0_tryImps_15 (Nat.le_of_ble_eq_true rfl) (lv2 := [(9, .int 0), (8, .int 0), (6, .long v3), (4, .long j1), (0, .ref a0), (1, .long j1), (3, .int x3)]) rfl ?_
  exact a_lv (lv2 := [(0, .ref a0), (3, .int x3), (4, .long j1), (6, .long v3), (8, .int 0), (9, .int 0)]) (fa_cons rfl (fa_cons rfl (fa_cons rfl (fa_cons rfl (fa_cons rfl (fa_cons rfl fa_nil)))))) (hJ _ _ _ h)
set_option maxHeartbeats 4000000 in
set_option maxRecDepth 100000 in
noncomputable def T_X0_tryImps_17.{u} {α : Sort u} (J : Nat → List Value → Mem → α) (R : Int64 → Mem → α) (N : α) (cl : Nat → List Value → Mem → Option (Int64 × Mem)) (n : Nat) (a0 : Nat) (x3 : Int32) (j4 : Int64) (j6 : Int64) (x8 : Int32) (x9 : Int32) (M : Mem) : α := gd (fO M a0 0) N (if ((M.2.2.1 a0 7) * ((M.2.2.1 a0 7) + 1)) ≤ x9 then R j4 M else if (M.2.2.1 a0 7) ≤ x8 then R j4 M else gd (¬ (M.2.2.1 a0 7) = 0) N (bnd (M.2.2.2.2 a0 1) N (fun r6 => gd (fA M r6 1 (x9 - x9 / (M.2.2.1 a0 7) * (M.2.2.1 a0 7))) N (if (M.2.2.1 r6 ((x9 - x9 / (M.2.2.1 a0 7) * (M.2.2.1 a0 7)).toNatClampNeg)) = 9 then bnd (M.2.2.2.2 a0 2) N (fun r13 => gd (fA M r13 2 (x9 - x9 / (M.2.2.1 a0 7) * (M.2.2.1 a0 7))) N (if (lg_cmp (j4 &&& ((M.2.2.2.1 r13 ((x9 - x9 / (M.2.2.1 a0 7) * (M.2.2.1 a0 7)).toNatClampNeg)) ||| (1 <<< (Int32.toInt64 (x9 - x9 / (M.2.2.1 a0 7) * (M.2.2.1 a0 7)) &&& 63)))) 0) = 0 then J 91 [.ref a0, .int x3, .long j4, .long j6, .int (x8 + 1), .int x9, .int (x9 - x9 / (M.2.2.1 a0 7) * (M.2.2.1 a0 7)), .int 1] M else J 91 [.ref a0, .int x3, .long j4, .long j6, .int (x8 + 1), .int x9, .int (x9 - x9 / (M.2.2.1 a0 7) * (M.2.2.1 a0 7)), .int 0] M)) else J 91 [.ref a0, .int x3, .long j4, .long j6, .int (x8 + 1), .int x9, .int (x9 - x9 / (M.2.2.1 a0 7) * (M.2.2.1 a0 7)), .int 0] M))))
set_option maxHeartbeats 4000000 in
set_option maxRecDepth 100000 in
theorem n_X0_tryImps_17.{u, v} {α : Sort u} {β : Sort v} (h : α → β) (J : Nat → List Value → Mem → α) (R : Int64 → Mem → α) (N : α) (cl : Nat → List Value → Mem → Option (Int64 × Mem)) (n : Nat) (a0 : Nat) (x3 : Int32) (j4 : Int64) (j6 : Int64) (x8 : Int32) (x9 : Int32) (M : Mem) : h (T_X0_tryImps_17 J R N cl n a0 x3 j4 j6 x8 x9 M) = T_X0_tryImps_17 (fun c l M => h (J c l M)) (fun v M => h (R v M)) (h N) cl n a0 x3 j4 j6 x8 x9 M := by
  simp only [T_X0_tryImps_17, nat_ite h, nat_gd h, nat_bnd h, nat_bnd2 h]
set_option maxHeartbeats 4000000 in
set_option maxRecDepth 100000 in
theorem w_X0_tryImps_17 {X : Nat × (Nat → Int32)} {al : Bool} {n : Nat} {Q : Option Value → Mem → Prop} {J : Nat → List Value → Mem → Prop} (hJ : ∀ c l M, J c l M → PW_X0_tryImps X al n Q c l M) {R : Int64 → Mem → Prop} (hR : ∀ v M, R v M → Q (some (.long v)) M) {cl : Nat → List Value → Mem → Option (Int64 × Mem)} (hc_X0_close : ∀ {a0 : Nat} {j1 : Int64} {x3 : Int32} {M : Mem} {v : Int64} {M1 : Mem}, cl 0 [.ref a0, .long j1, .int x3] M = some (v, M1) → ∃ k, n = k + 1 ∧ AE yX0_close cX0_close 10 (some .long) al k X [.ref a0, .long j1, .int x3] M (some (.long v)) M1) (hc_X0_tryImps : ∀ {a0 : Nat} {j1 : Int64} {x3 : Int32} {M : Mem} {v : Int64} {M1 : Mem}, cl 1 [.ref a0, .long j1, .int x3] M = some (v, M1) → ∃ k, n = k + 1 ∧ AE yX0_tryImps cX0_tryImps 12 (some .long) al k X [.ref a0, .long j1, .int x3] M (some (.long v)) M1) {a0 : Nat} {x3 : Int32} {j4 : Int64} {j6 : Int64} {x8 : Int32} {x9 : Int32} {M : Mem} (h : T_X0_tryImps_17 J R False cl n a0 x3 j4 j6 x8 x9 M) : AW X (RX0, cX0_tryImps, 12, (some .long), false, al, n) 0 0 17 [(0, .ref a0), (3, .int x3), (4, .long j4), (6, .long j6), (8, .int x8), (9, .int x9)] [] M Q := by
  unfold T_X0_tryImps_17 at h
  refine a_iload dX0_tryImps_17 rfl ?_
  refine a_aload_n dX0_tryImps_19 rfl rfl ?_
  obtain ⟨⟨ga1, gs2⟩, h⟩ := gd_t h
  refine a_get (v := .int (M.2.2.1 a0 7)) dX0_tryImps_20 fl_0_79 ga1 gs2 rfl ?_
  refine a_aload_n dX0_tryImps_23 rfl rfl ?_
  refine a_get (v := .int (M.2.2.1 a0 7)) dX0_tryImps_24 fl_0_79 ga1 gs2 rfl ?_
  refine a_iconst (v := 1) dX0_tryImps_27 (by decide) ?_
  refine a_iadd dX0_tryImps_28 ?_
  refine a_imul dX0_tryImps_29 ?_
  refine a_icmp_ge 202 dX0_tryImps_30 (by decide) (fun c3 => ?_) (fun c3 => ?_)
  · replace h := ite_t c3 h
    refine a_lload dX0_tryImps_202 rfl ?_
    exact a_lret dX0_tryImps_204 rfl (hR _ _ h)
  · replace h := ite_f c3 h
    refine a_iload dX0_tryImps_33 rfl ?_
    refine a_aload_n dX0_tryImps_35 rfl rfl ?_
    refine a_get (v := .int (M.2.2.1 a0 7)) dX0_tryImps_36 fl_0_79 ga1 gs2 rfl ?_
    refine a_icmp_ge 202 dX0_tryImps_39 (by decide) (fun c4 => ?_) (fun c4 => ?_)
    · replace h := ite_t c4 h
      refine a_lload dX0_tryImps_202 rfl ?_
      exact a_lret dX0_tryImps_204 rfl (hR _ _ h)
    · replace h := ite_f c4 h
      refine a_iload dX0_tryImps_42 rfl ?_
      refine a_aload_n dX0_tryImps_44 rfl rfl ?_
      refine a_get (v := .int (M.2.2.1 a0 7)) dX0_tryImps_45 fl_0_79 ga1 gs2 rfl ?_
      obtain ⟨gz5, h⟩ := gd_t h
      refine a_irem dX0_tryImps_48 gz5 ?_
      refine a_istore dX0_tryImps_49 (Nat.le_of_ble_eq_true rfl) (lv2 := [(10, .int (x9 - x9 / (M.2.2.1 a0 7) * (M.2.2.1 a0 7))), (0, .ref a0), (3, .int x3), (4, .long j4), (6, .long j6), (8, .int x8), (9, .int x9)]) rfl ?_
      refine a_iinc (v := (x8 + 1)) dX0_tryImps_51 rfl (by first | rfl | decide) (Nat.le_of_ble_eq_true rfl) (lv2 := [(8, .int (x8 + 1)), (10, .int (x9 - x9 / (M.2.2.1 a0 7) * (M.2.2.1 a0 7))), (0, .ref a0), (3, .int x3), (4, .long j4), (6, .long j6), (9, .int x9)]) rfl ?_
      refine a_aload_n dX0_tryImps_54 rfl rfl ?_
      obtain ⟨r6, e7, h⟩ := bnd_t h
      refine a_get (v := .ref r6) dX0_tryImps_55 fl_0_9 ga1 gs2 (gvR e7 rfl) ?_
      refine a_iload dX0_tryImps_58 rfl ?_
      obtain ⟨⟨ga8, gn9, gs10, gi11⟩, h⟩ := gd_t h
      refine a_iaload dX0_tryImps_60 ga8 gs10 gi11 ?_
      refine a_bipush (v := 9) dX0_tryImps_61 (by decide) ?_
      refine a_icmp_ne 90 dX0_tryImps_63 (by decide) (fun c12 => ?_) (fun c12 => ?_)
      · replace h := ite_f c12 h
        refine a_iconst (v := 0) dX0_tryImps_90 (by decide) ?_
        exact a_lv (lv2 := [(0, .ref a0), (3, .int x3), (4, .long j4), (6, .long j6), (8, .int (x8 + 1)), (9, .int x9), (10, .int (x9 - x9 / (M.2.2.1 a0 7) * (M.2.2.1 a0 7)))]) (fa_cons rfl (fa_cons rfl (fa_cons rfl (fa_cons rfl (fa_cons rfl (fa_cons rfl (fa_cons rfl fa_nil))))))) (hJ _ _ _ h)
      · replace h := ite_t c12 h
        refine a_lload dX0_tryImps_66 rfl ?_
        refine a_aload_n dX0_tryImps_68 rfl rfl ?_
        obtain ⟨r13, e14, h⟩ := bnd_t h
        refine a_get (v := .ref r13) dX0_tryImps_69 fl_0_15 ga1 gs2 (gvR e14 rfl) ?_
        refine a_iload dX0_tryImps_72 rfl ?_
        obtain ⟨⟨ga15, gn16, gs17, gi18⟩, h⟩ := gd_t h
        refine a_laload dX0_tryImps_74 ga15 gs17 gi18 ?_
        refine a_lconst (v := 1) dX0_tryImps_75 (by decide) ?_
        refine a_iload dX0_tryImps_76 rfl ?_
        refine a_lshl dX0_tryImps_78 ?_
        refine a_lor dX0_tryImps_79 ?_
        refine a_land dX0_tryImps_80 ?_
        refine a_lconst (v := 0) dX0_tryImps_81 (by decide) ?_
        refine a_lcmp dX0_tryImps_82 ?_
        refine a_if_ne 90 dX0_tryImps_83 (by decide) (fun c19 => ?_) (fun c19 => ?_)
        · replace h := ite_f c19 h
          refine a_iconst (v := 0) dX0_tryImps_90 (by decide) ?_
          exact a_lv (lv2 := [(0, .ref a0), (3, .int x3), (4, .long j4), (6, .long j6), (8, .int (x8 + 1)), (9, .int x9), (10, .int (x9 - x9 / (M.2.2.1 a0 7) * (M.2.2.1 a0 7)))]) (fa_cons rfl (fa_cons rfl (fa_cons rfl (fa_cons rfl (fa_cons rfl (fa_cons rfl (fa_cons rfl fa_nil))))))) (hJ _ _ _ h)
        · replace h := ite_t c19 h
          refine a_iconst (v := 1) dX0_tryImps_86 (by decide) ?_
          refine a_goto 91 dX0_tryImps_87 (by decide) ?_
          exact a_lv (lv2 := [(0, .ref a0), (3, .int x3), (4, .long j4), (6, .long j6), (8, .int (x8 + 1)), (9, .int x9), (10, .int (x9 - x9 / (M.2.2.1 a0 7) * (M.2.2.1 a0 7)))]) (fa_cons rfl (fa_cons rfl (fa_cons rfl (fa_cons rfl (fa_cons rfl (fa_cons rfl (fa_cons rfl fa_nil))))))) (hJ _ _ _ h)
set_option maxHeartbeats 4000000 in
set_option maxRecDepth 100000 in
noncomputable def T_X0_tryImps_91.{u} {α : Sort u} (J : Nat → List Value → Mem → α) (R : Int64 → Mem → α) (N : α) (cl : Nat → List Value → Mem → Option (Int64 × Mem)) (n : Nat) (a0 : Nat) (x3 : Int32) (j4 : Int64) (j6 : Int64) (x8 : Int32) (x9 : Int32) (x10 : Int32) (xs0 : Int32) (M : Mem) : α := if xs0 = 0 then J 17 [.ref a0, .int x3, .long j4, .long j6, .int x8, .int (x9 + 1)] M else if (lg_cmp ((lushr j6 x10) &&& 1) 0) = 0 then J 17 [.ref a0, .int x3, .long j4, .long j6, .int x8, .int (x9 + 1)] M else gd (fO M a0 0) N (bnd (M.2.2.2.2 a0 2) N (fun r5 => gd (fA M r5 2 x10) N (bnd2 (cl 0 [.ref a0, .long (j4 ||| (M.2.2.2.1 r5 (x10.toNatClampNeg))), .int (x3 + 1)] M) N (fun v11 M12 => gd (fO M12 a0 0) N (bnd (M12.2.2.2.2 a0 3) N (fun r18 => gd (fA M12 r18 2 x10) N (if (lg_cmp (v11 &&& (M12.2.2.2.1 r18 (x10.toNatClampNeg))) 0) = 0 then J 17 [.ref a0, .int x3, .long j4, .long j6, .int x8, .int (x9 + 1)] M12 else bnd2 (cal n (fun n => f_X0_saturate n a0 (j4 ||| (1 <<< (Int32.toInt64 x10 &&& 63))) M12)) N (fun v25 M26 => gd (fO M26 a0 0) N (if (lg_cmp (v25 &&& (M26.2.2.2.1 a0 9)) 0) = 0 then bnd2 (cal n (fun n => f_X0_openOr n a0 v25 M26)) N (fun v38 M39 => if v38 = (-1) then gd (fO M39 a0 0) N (bnd2 (cal n (fun n => f_X0_mattering n a0 v25 M39)) N (fun v46 M47 => J 17 [.ref a0, .int x3, .long v25, .long v46, .int 0, .int (x9 + 1)] M47)) else gd (fO M39 a0 0) N (bnd2 (cl 0 [.ref a0, .long v25, .int (x3 + 1)] M39) N (fun v53 M54 => R v53 M54))) else bnd2 (cl 0 [.ref a0, .long v25, .int (x3 + 1)] M26) N (fun v33 M34 => R v33 M34))))))))))
set_option maxHeartbeats 4000000 in
set_option maxRecDepth 100000 in
theorem n_X0_tryImps_91.{u, v} {α : Sort u} {β : Sort v} (h : α → β) (J : Nat → List Value → Mem → α) (R : Int64 → Mem → α) (N : α) (cl : Nat → List Value → Mem → Option (Int64 × Mem)) (n : Nat) (a0 : Nat) (x3 : Int32) (j4 : Int64) (j6 : Int64) (x8 : Int32) (x9 : Int32) (x10 : Int32) (xs0 : Int32) (M : Mem) : h (T_X0_tryImps_91 J R N cl n a0 x3 j4 j6 x8 x9 x10 xs0 M) = T_X0_tryImps_91 (fun c l M => h (J c l M)) (fun v M => h (R v M)) (h N) cl n a0 x3 j4 j6 x8 x9 x10 xs0 M := by
  simp only [T_X0_tryImps_91, nat_ite h, nat_gd h, nat_bnd h, nat_bnd2 h]
set_option maxHeartbeats 4000000 in
set_option maxRecDepth 100000 in
theorem w_X0_tryImps_91 {X : Nat × (Nat → Int32)} {al : Bool} {n : Nat} {Q : Option Value → Mem → Prop} {J : Nat → List Value → Mem → Prop} (hJ : ∀ c l M, J c l M → PW_X0_tryImps X al n Q c l M) {R : Int64 → Mem → Prop} (hR : ∀ v M, R v M → Q (some (.long v)) M) {cl : Nat → List Value → Mem → Option (Int64 × Mem)} (hc_X0_close : ∀ {a0 : Nat} {j1 : Int64} {x3 : Int32} {M : Mem} {v : Int64} {M1 : Mem}, cl 0 [.ref a0, .long j1, .int x3] M = some (v, M1) → ∃ k, n = k + 1 ∧ AE yX0_close cX0_close 10 (some .long) al k X [.ref a0, .long j1, .int x3] M (some (.long v)) M1) (hc_X0_tryImps : ∀ {a0 : Nat} {j1 : Int64} {x3 : Int32} {M : Mem} {v : Int64} {M1 : Mem}, cl 1 [.ref a0, .long j1, .int x3] M = some (v, M1) → ∃ k, n = k + 1 ∧ AE yX0_tryImps cX0_tryImps 12 (some .long) al k X [.ref a0, .long j1, .int x3] M (some (.long v)) M1) {a0 : Nat} {x3 : Int32} {j4 : Int64} {j6 : Int64} {x8 : Int32} {x9 : Int32} {x10 : Int32} {xs0 : Int32} {M : Mem} (h : T_X0_tryImps_91 J R False cl n a0 x3 j4 j6 x8 x9 x10 xs0 M) : AW X (RX0, cX0_tryImps, 12, (some .long), false, al, n) 0 0 91 [(0, .ref a0), (3, .int x3), (4, .long j4), (6, .long j6), (8, .int x8), (9, .int x9), (10, .int x10)] [.int xs0] M Q := by
  unfold T_X0_tryImps_91 at h
  refine a_istore dX0_tryImps_91 (Nat.le_of_ble_eq_true rfl) (lv2 := [(11, .int xs0), (0, .ref a0), (3, .int x3), (4, .long j4), (6, .long j6), (8, .int x8), (9, .int x9), (10, .int x10)]) rfl ?_
  refine a_iload dX0_tryImps_93 rfl ?_
  refine a_if_eq 196 dX0_tryImps_95 (by decide) (fun c1 => ?_) (fun c1 => ?_)
  · replace h := ite_t c1 h
    refine a_iinc (v := (x9 + 1)) dX0_tryImps_196 rfl (by first | rfl | decide) (Nat.le_of_ble_eq_true rfl) (lv2 := [(9, .int (x9 + 1)), (11, .int xs0), (0, .ref a0), (3, .int x3), (4, .long j4), (6, .long j6), (8, .int x8), (10, .int x10)]) rfl ?_
    refine a_goto 17 dX0_tryImps_199 (by decide) ?_
    exact a_lv (lv2 := [(0, .ref a0), (3, .int x3), (4, .long j4), (6, .long j6), (8, .int x8), (9, .int (x9 + 1))]) (fa_cons rfl (fa_cons rfl (fa_cons rfl (fa_cons rfl (fa_cons rfl (fa_cons rfl fa_nil)))))) (hJ _ _ _ h)
  · replace h := ite_f c1 h
    refine a_lload dX0_tryImps_98 rfl ?_
    refine a_iload dX0_tryImps_100 rfl ?_
    refine a_lushr dX0_tryImps_102 ?_
    refine a_lconst (v := 1) dX0_tryImps_103 (by decide) ?_
    refine a_land dX0_tryImps_104 ?_
    refine a_lconst (v := 0) dX0_tryImps_105 (by decide) ?_
    refine a_lcmp dX0_tryImps_106 ?_
    refine a_if_eq 196 dX0_tryImps_107 (by decide) (fun c2 => ?_) (fun c2 => ?_)
    · replace h := ite_t c2 h
      refine a_iinc (v := (x9 + 1)) dX0_tryImps_196 rfl (by first | rfl | decide) (Nat.le_of_ble_eq_true rfl) (lv2 := [(9, .int (x9 + 1)), (11, .int xs0), (0, .ref a0), (3, .int x3), (4, .long j4), (6, .long j6), (8, .int x8), (10, .int x10)]) rfl ?_
      refine a_goto 17 dX0_tryImps_199 (by decide) ?_
      exact a_lv (lv2 := [(0, .ref a0), (3, .int x3), (4, .long j4), (6, .long j6), (8, .int x8), (9, .int (x9 + 1))]) (fa_cons rfl (fa_cons rfl (fa_cons rfl (fa_cons rfl (fa_cons rfl (fa_cons rfl fa_nil)))))) (hJ _ _ _ h)
    · replace h := ite_f c2 h
      refine a_aload_n dX0_tryImps_110 rfl rfl ?_
      refine a_lload dX0_tryImps_111 rfl ?_
      refine a_aload_n dX0_tryImps_113 rfl rfl ?_
      obtain ⟨⟨ga3, gs4⟩, h⟩ := gd_t h
      obtain ⟨r5, e6, h⟩ := bnd_t h
      refine a_get (v := .ref r5) dX0_tryImps_114 fl_0_15 ga3 gs4 (gvR e6 rfl) ?_
      refine a_iload dX0_tryImps_117 rfl ?_
      obtain ⟨⟨ga7, gn8, gs9, gi10⟩, h⟩ := gd_t h
      refine a_laload dX0_tryImps_119 ga7 gs9 gi10 ?_
      refine a_lor dX0_tryImps_120 ?_
      refine a_iload_n dX0_tryImps_121 rfl rfl ?_
      refine a_iconst (v := 1) dX0_tryImps_122 (by decide) ?_
      refine a_iadd dX0_tryImps_123 ?_
      obtain ⟨v11, M12, e13, h⟩ := bnd2_t h
      obtain ⟨n14, en15, e13⟩ := hc_X0_close e13
      refine e_callV (As := [.long (j4 ||| (M.2.2.2.1 r5 (x10.toNatClampNeg))), .int (x3 + 1)]) (st := []) (a := a0) (ci := 0) false dX0_tryImps_124 mw_X0_close (Or.inl ⟨rfl, ml_X0_68⟩) im_X0_close se_X0_close (by decide) ga3 gs4 rfl (Nat.le_of_ble_eq_true rfl) en15 e13 ?_
      refine a_aload_n dX0_tryImps_127 rfl rfl ?_
      obtain ⟨⟨ga16, gs17⟩, h⟩ := gd_t h
      obtain ⟨r18, e19, h⟩ := bnd_t h
      refine a_get (v := .ref r18) dX0_tryImps_128 fl_0_19 ga16 gs17 (gvR e19 rfl) ?_
      refine a_iload dX0_tryImps_131 rfl ?_
      obtain ⟨⟨ga20, gn21, gs22, gi23⟩, h⟩ := gd_t h
      refine a_laload dX0_tryImps_133 ga20 gs22 gi23 ?_
      refine a_land dX0_tryImps_134 ?_
      refine a_lconst (v := 0) dX0_tryImps_135 (by decide) ?_
      refine a_lcmp dX0_tryImps_136 ?_
      refine a_if_eq 196 dX0_tryImps_137 (by decide) (fun c24 => ?_) (fun c24 => ?_)
      · replace h := ite_t c24 h
        refine a_iinc (v := (x9 + 1)) dX0_tryImps_196 rfl (by first | rfl | decide) (Nat.le_of_ble_eq_true rfl) (lv2 := [(9, .int (x9 + 1)), (11, .int xs0), (0, .ref a0), (3, .int x3), (4, .long j4), (6, .long j6), (8, .int x8), (10, .int x10)]) rfl ?_
        refine a_goto 17 dX0_tryImps_199 (by decide) ?_
        exact a_lv (lv2 := [(0, .ref a0), (3, .int x3), (4, .long j4), (6, .long j6), (8, .int x8), (9, .int (x9 + 1))]) (fa_cons rfl (fa_cons rfl (fa_cons rfl (fa_cons rfl (fa_cons rfl (fa_cons rfl fa_nil)))))) (hJ _ _ _ h)
      · replace h := ite_f c24 h
        refine a_aload_n dX0_tryImps_140 rfl rfl ?_
        refine a_lload dX0_tryImps_141 rfl ?_
        refine a_lconst (v := 1) dX0_tryImps_143 (by decide) ?_
        refine a_iload dX0_tryImps_144 rfl ?_
        refine a_lshl dX0_tryImps_146 ?_
        refine a_lor dX0_tryImps_147 ?_
        obtain ⟨v25, M26, e27, h⟩ := bnd2_t h
        obtain ⟨n28, en29, e27⟩ := cal_t e27
        refine e_callV (As := [.long (j4 ||| (1 <<< (Int32.toInt64 x10 &&& 63)))]) (st := []) (a := a0) (ci := 0) false dX0_tryImps_148 mw_X0_saturate (Or.inl ⟨rfl, ml_X0_92⟩) im_X0_saturate se_X0_saturate (by decide) ga16 gs17 rfl (Nat.le_of_ble_eq_true rfl) en29 (s_X0_saturate e27) ?_
        refine a_lstore dX0_tryImps_151 (Nat.le_of_ble_eq_true rfl) (lv2 := [(4, .long v25), (11, .int xs0), (0, .ref a0), (3, .int x3), (6, .long j6), (8, .int x8), (9, .int x9), (10, .int x10)]) rfl ?_
        refine a_lload dX0_tryImps_153 rfl ?_
        refine a_aload_n dX0_tryImps_155 rfl rfl ?_
        obtain ⟨⟨ga30, gs31⟩, h⟩ := gd_t h
        refine a_get (v := .long (M26.2.2.2.1 a0 9)) dX0_tryImps_156 fl_0_80 ga30 gs31 rfl ?_
        refine a_land dX0_tryImps_159 ?_
        refine a_lconst (v := 0) dX0_tryImps_160 (by decide) ?_
        refine a_lcmp dX0_tryImps_161 ?_
        refine a_if_ne 175 dX0_tryImps_162 (by decide) (fun c32 => ?_) (fun c32 => ?_)
        · replace h := ite_f c32 h
          refine a_aload_n dX0_tryImps_175 rfl rfl ?_
          refine a_lload dX0_tryImps_176 rfl ?_
          refine a_iload_n dX0_tryImps_178 rfl rfl ?_
          refine a_iconst (v := 1) dX0_tryImps_179 (by decide) ?_
          refine a_iadd dX0_tryImps_180 ?_
          obtain ⟨v33, M34, e35, h⟩ := bnd2_t h
          obtain ⟨n36, en37, e35⟩ := hc_X0_close e35
          refine e_callV (As := [.long v25, .int (x3 + 1)]) (st := []) (a := a0) (ci := 0) false dX0_tryImps_181 mw_X0_close (Or.inl ⟨rfl, ml_X0_68⟩) im_X0_close se_X0_close (by decide) ga30 gs31 rfl (Nat.le_of_ble_eq_true rfl) en37 e35 ?_
          exact a_lret dX0_tryImps_184 rfl (hR _ _ h)
        · replace h := ite_t c32 h
          refine a_aload_n dX0_tryImps_165 rfl rfl ?_
          refine a_lload dX0_tryImps_166 rfl ?_
          obtain ⟨v38, M39, e40, h⟩ := bnd2_t h
          obtain ⟨n41, en42, e40⟩ := cal_t e40
          refine e_callV (As := [.long v25]) (st := []) (a := a0) (ci := 0) false dX0_tryImps_168 mw_X0_openOr (Or.inl ⟨rfl, ml_X0_101⟩) im_X0_openOr se_X0_openOr (by decide) ga30 gs31 rfl (Nat.le_of_ble_eq_true rfl) en42 (s_X0_openOr e40) ?_
          refine a_iconst (v := -1) dX0_tryImps_171 (by decide) ?_
          refine a_icmp_eq 185 dX0_tryImps_172 (by decide) (fun c43 => ?_) (fun c43 => ?_)
          · replace h := ite_t c43 h
            refine a_aload_n dX0_tryImps_185 rfl rfl ?_
            refine a_lload dX0_tryImps_186 rfl ?_
            obtain ⟨⟨ga44, gs45⟩, h⟩ := gd_t h
            obtain ⟨v46, M47, e48, h⟩ := bnd2_t h
            obtain ⟨n49, en50, e48⟩ := cal_t e48
            refine e_callV (As := [.long v25]) (st := []) (a := a0) (ci := 0) false dX0_tryImps_188 mw_X0_mattering (Or.inl ⟨rfl, ml_X0_111⟩) im_X0_mattering se_X0_mattering (by decide) ga44 gs45 rfl (Nat.le_of_ble_eq_true rfl) en50 (s_X0_mattering e48) ?_
            refine a_lstore dX0_tryImps_191 (Nat.le_of_ble_eq_true rfl) (lv2 := [(6, .long v46), (4, .long v25), (11, .int xs0), (0, .ref a0), (3, .int x3), (8, .int x8), (9, .int x9), (10, .int x10)]) rfl ?_
            refine a_iconst (v := 0) dX0_tryImps_193 (by decide) ?_
            refine a_istore dX0_tryImps_194 (Nat.le_of_ble_eq_true rfl) (lv2 := [(8, .int 0), (6, .long v46), (4, .long v25), (11, .int xs0), (0, .ref a0), (3, .int x3), (9, .int x9), (10, .int x10)]) rfl ?_
            refine a_iinc (v := (x9 + 1)) dX0_tryImps_196 rfl (by first | rfl | decide) (Nat.le_of_ble_eq_true rfl) (lv2 := [(9, .int (x9 + 1)), (8, .int 0), (6, .long v46), (4, .long v25), (11, .int xs0), (0, .ref a0), (3, .int x3), (10, .int x10)]) rfl ?_
            refine a_goto 17 dX0_tryImps_199 (by decide) ?_
            exact a_lv (lv2 := [(0, .ref a0), (3, .int x3), (4, .long v25), (6, .long v46), (8, .int 0), (9, .int (x9 + 1))]) (fa_cons rfl (fa_cons rfl (fa_cons rfl (fa_cons rfl (fa_cons rfl (fa_cons rfl fa_nil)))))) (hJ _ _ _ h)
          · replace h := ite_f c43 h
            refine a_aload_n dX0_tryImps_175 rfl rfl ?_
            refine a_lload dX0_tryImps_176 rfl ?_
            refine a_iload_n dX0_tryImps_178 rfl rfl ?_
            refine a_iconst (v := 1) dX0_tryImps_179 (by decide) ?_
            refine a_iadd dX0_tryImps_180 ?_
            obtain ⟨⟨ga51, gs52⟩, h⟩ := gd_t h
            obtain ⟨v53, M54, e55, h⟩ := bnd2_t h
            obtain ⟨n56, en57, e55⟩ := hc_X0_close e55
            refine e_callV (As := [.long v25, .int (x3 + 1)]) (st := []) (a := a0) (ci := 0) false dX0_tryImps_181 mw_X0_close (Or.inl ⟨rfl, ml_X0_68⟩) im_X0_close se_X0_close (by decide) ga51 gs52 rfl (Nat.le_of_ble_eq_true rfl) en57 e55 ?_
            exact a_lret dX0_tryImps_184 rfl (hR _ _ h)
set_option maxHeartbeats 4000000 in
set_option maxRecDepth 100000 in
noncomputable def st_X0_tryImps (cl : Nat → List Value → Mem → Option (Int64 × Mem)) (n : Nat) (s : Sg) : Option (Sg ⊕ (Int64 × Mem)) := if s.1 = 0 then vR s.2.1 none (fun a0 t => vJ t none (fun j1 t => vI t none (fun x3 t => vE t none (T_X0_tryImps_0 (fun c l M => some (.inl (c, l, M))) (fun v M => some (.inr (v, M))) none cl n a0 j1 x3 s.2.2)))) else if s.1 = 17 then vR s.2.1 none (fun a0 t => vI t none (fun x3 t => vJ t none (fun j4 t => vJ t none (fun j6 t => vI t none (fun x8 t => vI t none (fun x9 t => vE t none (T_X0_tryImps_17 (fun c l M => some (.inl (c, l, M))) (fun v M => some (.inr (v, M))) none cl n a0 x3 j4 j6 x8 x9 s.2.2))))))) else if s.1 = 91 then vR s.2.1 none (fun a0 t => vI t none (fun x3 t => vJ t none (fun j4 t => vJ t none (fun j6 t => vI t none (fun x8 t => vI t none (fun x9 t => vI t none (fun x10 t => vI t none (fun xs0 t => vE t none (T_X0_tryImps_91 (fun c l M => some (.inl (c, l, M))) (fun v M => some (.inr (v, M))) none cl n a0 x3 j4 j6 x8 x9 x10 xs0 s.2.2))))))))) else none
noncomputable abbrev g_X0_tryImps_0 (cl : Nat → List Value → Mem → Option (Int64 × Mem)) (n : Nat) (a0 : Nat) (j1 : Int64) (x3 : Int32) (M : Mem) : Option (Int64 × Mem) := lp (st_X0_tryImps cl n) (0, [.ref a0, .long j1, .int x3], M)
set_option maxHeartbeats 4000000 in
set_option maxRecDepth 100000 in
theorem ge_X0_tryImps_0 (cl : Nat → List Value → Mem → Option (Int64 × Mem)) (n : Nat) (a0 : Nat) (j1 : Int64) (x3 : Int32) (M : Mem) : g_X0_tryImps_0 cl n a0 j1 x3 M = T_X0_tryImps_0 (fun c l M => lp (st_X0_tryImps cl n) (c, l, M)) (fun v M => some (v, M)) none cl n a0 j1 x3 M := (lp_eq _ _).trans (n_X0_tryImps_0 (lpK (st_X0_tryImps cl n)) (fun c l M => some (.inl (c, l, M))) (fun v M => some (.inr (v, M))) none cl n a0 j1 x3 M)
noncomputable abbrev g_X0_tryImps_17 (cl : Nat → List Value → Mem → Option (Int64 × Mem)) (n : Nat) (a0 : Nat) (x3 : Int32) (j4 : Int64) (j6 : Int64) (x8 : Int32) (x9 : Int32) (M : Mem) : Option (Int64 × Mem) := lp (st_X0_tryImps cl n) (17, [.ref a0, .int x3, .long j4, .long j6, .int x8, .int x9], M)
set_option maxHeartbeats 4000000 in
set_option maxRecDepth 100000 in
theorem ge_X0_tryImps_17 (cl : Nat → List Value → Mem → Option (Int64 × Mem)) (n : Nat) (a0 : Nat) (x3 : Int32) (j4 : Int64) (j6 : Int64) (x8 : Int32) (x9 : Int32) (M : Mem) : g_X0_tryImps_17 cl n a0 x3 j4 j6 x8 x9 M = T_X0_tryImps_17 (fun c l M => lp (st_X0_tryImps cl n) (c, l, M)) (fun v M => some (v, M)) none cl n a0 x3 j4 j6 x8 x9 M := (lp_eq _ _).trans (n_X0_tryImps_17 (lpK (st_X0_tryImps cl n)) (fun c l M => some (.inl (c, l, M))) (fun v M => some (.inr (v, M))) none cl n a0 x3 j4 j6 x8 x9 M)
noncomputable abbrev g_X0_tryImps_91 (cl : Nat → List Value → Mem → Option (Int64 × Mem)) (n : Nat) (a0 : Nat) (x3 : Int32) (j4 : Int64) (j6 : Int64) (x8 : Int32) (x9 : Int32) (x10 : Int32) (xs0 : Int32) (M : Mem) : Option (Int64 × Mem) := lp (st_X0_tryImps cl n) (91, [.ref a0, .int x3, .long j4, .long j6, .int x8, .int x9, .int x10, .int xs0], M)
set_option maxHeartbeats 4000000 in
set_option maxRecDepth 100000 in
theorem ge_X0_tryImps_91 (cl : Nat → List Value → Mem → Option (Int64 × Mem)) (n : Nat) (a0 : Nat) (x3 : Int32) (j4 : Int64) (j6 : Int64) (x8 : Int32) (x9 : Int32) (x10 : Int32) (xs0 : Int32) (M : Mem) : g_X0_tryImps_91 cl n a0 x3 j4 j6 x8 x9 x10 xs0 M = T_X0_tryImps_91 (fun c l M => lp (st_X0_tryImps cl n) (c, l, M)) (fun v M => some (v, M)) none cl n a0 x3 j4 j6 x8 x9 x10 xs0 M := (lp_eq _ _).trans (n_X0_tryImps_91 (lpK (st_X0_tryImps cl n)) (fun c l M => some (.inl (c, l, M))) (fun v M => some (.inr (v, M))) none cl n a0 x3 j4 j6 x8 x9 x10 xs0 M)
noncomputable def b_X0_tryImps (cl : Nat → List Value → Mem → Option (Int64 × Mem)) (n : Nat) (a0 : Nat) (j1 : Int64) (x3 : Int32) (M : Mem) : Option (Int64 × Mem) := g_X0_tryImps_0 cl n a0 j1 x3 M
set_option maxHeartbeats 4000000 in
set_option maxRecDepth 100000 in
theorem sb_X0_tryImps {X : Nat × (Nat → Int32)} {al : Bool} {n : Nat} {cl : Nat → List Value → Mem → Option (Int64 × Mem)} (hc_X0_close : ∀ {a0 : Nat} {j1 : Int64} {x3 : Int32} {M : Mem} {v : Int64} {M1 : Mem}, cl 0 [.ref a0, .long j1, .int x3] M = some (v, M1) → ∃ k, n = k + 1 ∧ AE yX0_close cX0_close 10 (some .long) al k X [.ref a0, .long j1, .int x3] M (some (.long v)) M1) (hc_X0_tryImps : ∀ {a0 : Nat} {j1 : Int64} {x3 : Int32} {M : Mem} {v : Int64} {M1 : Mem}, cl 1 [.ref a0, .long j1, .int x3] M = some (v, M1) → ∃ k, n = k + 1 ∧ AE yX0_tryImps cX0_tryImps 12 (some .long) al k X [.ref a0, .long j1, .int x3] M (some (.long v)) M1) {a0 : Nat} {j1 : Int64} {x3 : Int32} {M : Mem} {v : Int64} {M1 : Mem} (h : b_X0_tryImps cl n a0 j1 x3 M = some (v, M1)) : AE yX0_tryImps cX0_tryImps 12 (some .long) al n X [.ref a0, .long j1, .int x3] M (some (.long v)) M1 := by
  refine AM.of false (by decide +kernel) (by intro h; cases h) (Nat.le_of_ble_eq_true rfl) ?_
  refine lp_snd (P := fun s r => PW_X0_tryImps X al n (fun v M2 => v = (some (.long r.1)) ∧ M2 = r.2) s.1 s.2.1 s.2.2) ?_ h
  clear h
  rintro ⟨c, l, M⟩ r h
  unfold st_X0_tryImps at h
  rcases ite_p h with ⟨e, h⟩ | ⟨e, h⟩
  · replace e : c = 0 := e
    subst e
    obtain ⟨a0, tt0, e, h⟩ := vR_p id h
    replace e : l = _ := e
    subst e
    obtain ⟨j1, tt1, e, h⟩ := vJ_p id h
    replace e : tt0 = _ := e
    subst e
    obtain ⟨x3, tt2, e, h⟩ := vI_p id h
    replace e : tt1 = _ := e
    subst e
    obtain ⟨e, h⟩ := vE_p id h
    replace e : tt2 = [] := e
    subst e
    exact w_X0_tryImps_0 (J := fun c l M => PW_X0_tryImps X al n (fun v M2 => v = (some (.long r.1)) ∧ M2 = r.2) c l M) (R := fun v M => (v, M) = r) (fun _ _ _ h => h) (fun v M h => by cases h; exact ⟨rfl, rfl⟩) hc_X0_close hc_X0_tryImps ((n_X0_tryImps_0 (lpP (fun (s : Sg) (r : Int64 × Mem) => PW_X0_tryImps X al n (fun v M2 => v = (some (.long r.1)) ∧ M2 = r.2) s.1 s.2.1 s.2.2) r) (fun c l M => some (.inl (c, l, M))) (fun v M => some (.inr (v, M))) none cl n a0 j1 x3 M).mp h)
  rcases ite_p h with ⟨e, h⟩ | ⟨e, h⟩
  · replace e : c = 17 := e
    subst e
    obtain ⟨a0, tt0, e, h⟩ := vR_p id h
    replace e : l = _ := e
    subst e
    obtain ⟨x3, tt1, e, h⟩ := vI_p id h
    replace e : tt0 = _ := e
    subst e
    obtain ⟨j4, tt2, e, h⟩ := vJ_p id h
    replace e : tt1 = _ := e
    subst e
    obtain ⟨j6, tt3, e, h⟩ := vJ_p id h
    replace e : tt2 = _ := e
    subst e
    obtain ⟨x8, tt4, e, h⟩ := vI_p id h
    replace e : tt3 = _ := e
    subst e
    obtain ⟨x9, tt5, e, h⟩ := vI_p id h
    replace e : tt4 = _ := e
    subst e
    obtain ⟨e, h⟩ := vE_p id h
    replace e : tt5 = [] := e
    subst e
    exact w_X0_tryImps_17 (J := fun c l M => PW_X0_tryImps X al n (fun v M2 => v = (some (.long r.1)) ∧ M2 = r.2) c l M) (R := fun v M => (v, M) = r) (fun _ _ _ h => h) (fun v M h => by cases h; exact ⟨rfl, rfl⟩) hc_X0_close hc_X0_tryImps ((n_X0_tryImps_17 (lpP (fun (s : Sg) (r : Int64 × Mem) => PW_X0_tryImps X al n (fun v M2 => v = (some (.long r.1)) ∧ M2 = r.2) s.1 s.2.1 s.2.2) r) (fun c l M => some (.inl (c, l, M))) (fun v M => some (.inr (v, M))) none cl n a0 x3 j4 j6 x8 x9 M).mp h)
  rcases ite_p h with ⟨e, h⟩ | ⟨e, h⟩
  · replace e : c = 91 := e
    subst e
    obtain ⟨a0, tt0, e, h⟩ := vR_p id h
    replace e : l = _ := e
    subst e
    obtain ⟨x3, tt1, e, h⟩ := vI_p id h
    replace e : tt0 = _ := e
    subst e
    obtain ⟨j4, tt2, e, h⟩ := vJ_p id h
    replace e : tt1 = _ := e
    subst e
    obtain ⟨j6, tt3, e, h⟩ := vJ_p id h
    replace e : tt2 = _ := e
    subst e
    obtain ⟨x8, tt4, e, h⟩ := vI_p id h
    replace e : tt3 = _ := e
    subst e
    obtain ⟨x9, tt5, e, h⟩ := vI_p id h
    replace e : tt4 = _ := e
    subst e
    obtain ⟨x10, tt6, e, h⟩ := vI_p id h
    replace e : tt5 = _ := e
    subst e
    obtain ⟨xs0, tt7, e, h⟩ := vI_p id h
    replace e : tt6 = _ := e
    subst e
    obtain ⟨e, h⟩ := vE_p id h
    replace e : tt7 = [] := e
    subst e
    exact w_X0_tryImps_91 (J := fun c l M => PW_X0_tryImps X al n (fun v M2 => v = (some (.long r.1)) ∧ M2 = r.2) c l M) (R := fun v M => (v, M) = r) (fun _ _ _ h => h) (fun v M h => by cases h; exact ⟨rfl, rfl⟩) hc_X0_close hc_X0_tryImps ((n_X0_tryImps_91 (lpP (fun (s : Sg) (r : Int64 × Mem) => PW_X0_tryImps X al n (fun v M2 => v = (some (.long r.1)) ∧ M2 = r.2) s.1 s.2.1 s.2.2) r) (fun c l M => some (.inl (c, l, M))) (fun v M => some (.inr (v, M))) none cl n a0 x3 j4 j6 x8 x9 x10 xs0 M).mp h)
  · exact h.elim

noncomputable def F_X0_close (cl : Nat → List Value → Mem → Option (Int64 × Mem)) (n k : Nat) (l : List Value) (M : Mem) : Option (Int64 × Mem) := if k = 0 then vR l none (fun a0 t => vJ t none (fun j1 t => vI t none (fun x3 t => vE t none (b_X0_close cl n a0 j1 x3 M)))) else if k = 1 then vR l none (fun a0 t => vJ t none (fun j1 t => vI t none (fun x3 t => vE t none (b_X0_tryImps cl n a0 j1 x3 M)))) else none
noncomputable def r_X0_close : Nat → Nat → List Value → Mem → Option (Int64 × Mem)
  | 0 => F_X0_close (fun _ _ _ => none) 0
  | n + 1 => F_X0_close (r_X0_close n) (n + 1)
noncomputable abbrev f_X0_close (n : Nat) (a0 : Nat) (j1 : Int64) (x3 : Int32) (M : Mem) : Option (Int64 × Mem) := r_X0_close n 0 [.ref a0, .long j1, .int x3] M
noncomputable abbrev f_X0_tryImps (n : Nat) (a0 : Nat) (j1 : Int64) (x3 : Int32) (M : Mem) : Option (Int64 × Mem) := r_X0_close n 1 [.ref a0, .long j1, .int x3] M
set_option maxHeartbeats 4000000 in
set_option maxRecDepth 100000 in
theorem sr_X0_close {X : Nat × (Nat → Int32)} {al : Bool} : ∀ n : Nat, (∀ {a0 : Nat} {j1 : Int64} {x3 : Int32} {M : Mem} {v : Int64} {M1 : Mem}, f_X0_close n a0 j1 x3 M = some (v, M1) → AE yX0_close cX0_close 10 (some .long) al n X [.ref a0, .long j1, .int x3] M (some (.long v)) M1) ∧ (∀ {a0 : Nat} {j1 : Int64} {x3 : Int32} {M : Mem} {v : Int64} {M1 : Mem}, f_X0_tryImps n a0 j1 x3 M = some (v, M1) → AE yX0_tryImps cX0_tryImps 12 (some .long) al n X [.ref a0, .long j1, .int x3] M (some (.long v)) M1) := by
  intro n
  induction n with
  | zero => exact ⟨(fun h => sb_X0_close (cl := fun _ _ _ => none) (fun h => by cases h) (fun h => by cases h) h), (fun h => sb_X0_tryImps (cl := fun _ _ _ => none) (fun h => by cases h) (fun h => by cases h) h)⟩
  | succ n ih => exact ⟨(fun h => sb_X0_close (cl := r_X0_close n) (fun h => ⟨n, rfl, ih.1 h⟩) (fun h => ⟨n, rfl, ih.2 h⟩) h), (fun h => sb_X0_tryImps (cl := r_X0_close n) (fun h => ⟨n, rfl, ih.1 h⟩) (fun h => ⟨n, rfl, ih.2 h⟩) h)⟩
theorem s_X0_close {X : Nat × (Nat → Int32)} {al : Bool} {n : Nat} {a0 : Nat} {j1 : Int64} {x3 : Int32} {M : Mem} {v : Int64} {M1 : Mem} (h : f_X0_close n a0 j1 x3 M = some (v, M1)) : AE yX0_close cX0_close 10 (some .long) al n X [.ref a0, .long j1, .int x3] M (some (.long v)) M1 := (sr_X0_close n).1 h
theorem s_X0_tryImps {X : Nat × (Nat → Int32)} {al : Bool} {n : Nat} {a0 : Nat} {j1 : Int64} {x3 : Int32} {M : Mem} {v : Int64} {M1 : Mem} (h : f_X0_tryImps n a0 j1 x3 M = some (v, M1)) : AE yX0_tryImps cX0_tryImps 12 (some .long) al n X [.ref a0, .long j1, .int x3] M (some (.long v)) M1 := (sr_X0_close n).2 h
