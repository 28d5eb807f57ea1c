/-! METHODS AS FUNCTIONS, written by wip/gen/shallow.py -/
def ix_X5_leastAgainst (c : Nat) : List Nat := if c = 0 then [0, 1, 2] else if c = 2 then [0, 1, 2, 3] else if c = 30 then [0, 1, 2, 3, 4, 6] else if c = 67 then [0, 1, 2, 3, 4, 6] else []
def PW_X5_leastAgainst (X : Nat × (Nat → Int32)) (al : Bool) (n : Nat) (Q : Option Value → Mem → Prop) (c : Nat) (l : List Value) (M : Mem) : Prop := AW X (RX5, cX5_leastAgainst, 7, (some .int), false, al, n) 0 0 c (List.zip (ix_X5_leastAgainst c) l) (l.drop (ix_X5_leastAgainst c).length) M Q
set_option maxHeartbeats 4000000 in
set_option maxRecDepth 100000 in
noncomputable def T_X5_leastAgainst_0.{u} {α : Sort u} (J : Nat → List Value → Mem → α) (R : Int32 → Mem → α) (N : α) (n : Nat) (a0 : Nat) (a1 : Nat) (x2 : Int32) (M : Mem) : α := J 2 [.ref a0, .ref a1, .int x2, .int 0] M
set_option maxHeartbeats 4000000 in
set_option maxRecDepth 100000 in
theorem n_X5_leastAgainst_0.{u, v} {α : Sort u} {β : Sort v} (h : α → β) (J : Nat → List Value → Mem → α) (R : Int32 → Mem → α) (N : α) (n : Nat) (a0 : Nat) (a1 : Nat) (x2 : Int32) (M : Mem) : h (T_X5_leastAgainst_0 J R N n a0 a1 x2 M) = T_X5_leastAgainst_0 (fun c l M => h (J c l M)) (fun v M => h (R v M)) (h N) n a0 a1 x2 M := by
  simp only [T_X5_leastAgainst_0, nat_ite h, nat_gd h, nat_bnd h, nat_bnd2 h]
set_option maxHeartbeats 4000000 in
set_option maxRecDepth 100000 in
theorem w_X5_leastAgainst_0 {X : Nat × (Nat → Int32)} {al : Bool} {n : Nat} {Q : Option Value → Mem → Prop} {J : Nat → List Value → Mem → Prop} (hJ : ∀ c l M, J c l M → PW_X5_leastAgainst X al n Q c l M) {R : Int32 → Mem → Prop} (hR : ∀ v M, R v M → Q (some (.int v)) M) {a0 : Nat} {a1 : Nat} {x2 : Int32} {M : Mem} (h : T_X5_leastAgainst_0 J R False n a0 a1 x2 M) : AW X (RX5, cX5_leastAgainst, 7, (some .int), false, al, n) 0 0 0 [(0, .ref a0), (1, .ref a1), (2, .int x2)] [] M Q := by
  unfold T_X5_leastAgainst_0 at h
  refine a_iconst (v := 0) dX5_leastAgainst_0 (by decide) ?_
  refine a_istore_n dX5_leastAgainst_1 rfl (Nat.le_of_ble_eq_true rfl) (lv2 := [(3, .int 0), (0, .ref a0), (1, .ref a1), (2, .int x2)]) rfl ?_
  exact a_lv (lv2 := [(0, .ref a0), (1, .ref a1), (2, .int x2), (3, .int 0)]) (fa_cons rfl (fa_cons rfl (fa_cons rfl (fa_cons rfl fa_nil)))) (hJ _ _ _ h)
set_option maxHeartbeats 4000000 in
set_option maxRecDepth 100000 in
noncomputable def T_X5_leastAgainst_2.{u} {α : Sort u} (J : Nat → List Value → Mem → α) (R : Int32 → Mem → α) (N : α) (n : Nat) (a0 : Nat) (a1 : Nat) (x2 : Int32) (x3 : Int32) (M : Mem) : α := if 4 ≤ x3 then R (-1) M else gd (fO M a0 5) N (bnd2 (cal n (fun n => f_X5_fillTruths n a0 x3 M)) N (fun _ M4 => gd (fO M4 a0 5) N (bnd2 (cal n (fun n => f_X5_spotOf n a0 x2 M4)) N (fun v10 M11 => gd (fO M11 a0 5) N (bnd2 (cal n (fun n => f_X5_truthAt n a0 v10 M11)) N (fun v17 M18 => J 30 [.ref a0, .ref a1, .int x2, .int x3, .long (v17 ^^^ (-1)), .int 0] M18))))))
set_option maxHeartbeats 4000000 in
set_option maxRecDepth 100000 in
theorem n_X5_leastAgainst_2.{u, v} {α : Sort u} {β : Sort v} (h : α → β) (J : Nat → List Value → Mem → α) (R : Int32 → Mem → α) (N : α) (n : Nat) (a0 : Nat) (a1 : Nat) (x2 : Int32) (x3 : Int32) (M : Mem) : h (T_X5_leastAgainst_2 J R N n a0 a1 x2 x3 M) = T_X5_leastAgainst_2 (fun c l M => h (J c l M)) (fun v M => h (R v M)) (h N) n a0 a1 x2 x3 M := by
  simp only [T_X5_leastAgainst_2, nat_ite h, nat_gd h, nat_bnd h, nat_bnd2 h]
set_option maxHeartbeats 4000000 in
set_option maxRecDepth 100000 in
theorem w_X5_leastAgainst_2 {X : Nat × (Nat → Int32)} {al : Bool} {n : Nat} {Q : Option Value → Mem → Prop} {J : Nat → List Value → Mem → Prop} (hJ : ∀ c l M, J c l M → PW_X5_leastAgainst X al n Q c l M) {R : Int32 → Mem → Prop} (hR : ∀ v M, R v M → Q (some (.int v)) M) {a0 : Nat} {a1 : Nat} {x2 : Int32} {x3 : Int32} {M : Mem} (h : T_X5_leastAgainst_2 J R False n a0 a1 x2 x3 M) : AW X (RX5, cX5_leastAgainst, 7, (some .int), false, al, n) 0 0 2 [(0, .ref a0), (1, .ref a1), (2, .int x2), (3, .int x3)] [] M Q := by
  unfold T_X5_leastAgainst_2 at h
  refine a_iload_n dX5_leastAgainst_2 rfl rfl ?_
  refine a_iconst (v := 4) dX5_leastAgainst_3 (by decide) ?_
  refine a_icmp_ge 106 dX5_leastAgainst_4 (by decide) (fun c1 => ?_) (fun c1 => ?_)
  · replace h := ite_t c1 h
    refine a_iconst (v := -1) dX5_leastAgainst_106 (by decide) ?_
    exact a_iret dX5_leastAgainst_107 rfl (hR _ _ h)
  · replace h := ite_f c1 h
    refine a_aload_n dX5_leastAgainst_7 rfl rfl ?_
    refine a_iload_n dX5_leastAgainst_8 rfl rfl ?_
    obtain ⟨⟨ga2, gs3⟩, h⟩ := gd_t h
    obtain ⟨_, M4, e5, h⟩ := bnd2_t h
    obtain ⟨n6, en7, e5⟩ := cal_t e5
    refine e_callV (As := [.int x3]) (st := []) (a := a0) (ci := 5) false dX5_leastAgainst_9 mw_X5_fillTruths (Or.inl ⟨rfl, ml_X5_75⟩) im_X5_fillTruths se_X5_fillTruths (by decide) ga2 gs3 rfl (Nat.le_of_ble_eq_true rfl) en7 (s_X5_fillTruths e5) ?_
    refine a_aload_n dX5_leastAgainst_12 rfl rfl ?_
    refine a_aload_n dX5_leastAgainst_13 rfl rfl ?_
    refine a_iload_n dX5_leastAgainst_14 rfl rfl ?_
    obtain ⟨⟨ga8, gs9⟩, h⟩ := gd_t h
    obtain ⟨v10, M11, e12, h⟩ := bnd2_t h
    obtain ⟨n13, en14, e12⟩ := cal_t e12
    refine e_callV (As := [.int x2]) (st := [.ref a0]) (a := a0) (ci := 5) false dX5_leastAgainst_15 mw_X5_spotOf (Or.inl ⟨rfl, ml_X5_65⟩) im_X5_spotOf se_X5_spotOf (by decide) ga8 gs9 rfl (Nat.le_of_ble_eq_true rfl) en14 (s_X5_spotOf e12) ?_
    obtain ⟨⟨ga15, gs16⟩, h⟩ := gd_t h
    obtain ⟨v17, M18, e19, h⟩ := bnd2_t h
    obtain ⟨n20, en21, e19⟩ := cal_t e19
    refine e_callV (As := [.int v10]) (st := []) (a := a0) (ci := 5) false dX5_leastAgainst_18 mw_X5_truthAt (Or.inl ⟨rfl, ml_X5_79⟩) im_X5_truthAt se_X5_truthAt (by decide) ga15 gs16 rfl (Nat.le_of_ble_eq_true rfl) en21 (s_X5_truthAt e19) ?_
    refine a_ldc2 dX5_leastAgainst_21 co_X5_83 ?_
    refine a_lxor dX5_leastAgainst_24 ?_
    refine a_lstore dX5_leastAgainst_25 (Nat.le_of_ble_eq_true rfl) (lv2 := [(4, .long (v17 ^^^ (-1))), (0, .ref a0), (1, .ref a1), (2, .int x2), (3, .int x3)]) rfl ?_
    refine a_iconst (v := 0) dX5_leastAgainst_27 (by decide) ?_
    refine a_istore dX5_leastAgainst_28 (Nat.le_of_ble_eq_true rfl) (lv2 := [(6, .int 0), (4, .long (v17 ^^^ (-1))), (0, .ref a0), (1, .ref a1), (2, .int x2), (3, .int x3)]) rfl ?_
    exact a_lv (lv2 := [(0, .ref a0), (1, .ref a1), (2, .int x2), (3, .int x3), (4, .long (v17 ^^^ (-1))), (6, .int 0)]) (fa_cons rfl (fa_cons rfl (fa_cons rfl (fa_cons rfl (fa_cons rfl (fa_cons rfl fa_nil)))))) (hJ _ _ _ h)
set_option maxHeartbeats 4000000 in
set_option maxRecDepth 100000 in
noncomputable def T_X5_leastAgainst_30.{u} {α : Sort u} (J : Nat → List Value → Mem → α) (R : Int32 → Mem → α) (N : α) (n : Nat) (a0 : Nat) (a1 : Nat) (x2 : Int32) (x3 : Int32) (j4 : Int64) (x6 : Int32) (M : Mem) : α := gd (fO M a1 2) N (if (M.2.2.1 a1 3) ≤ x6 then J 67 [.ref a0, .ref a1, .int x2, .int x3, .long j4, .int 0] M else bnd2 (cal n (fun n => f_X2_formulaOf n a1 x6 M)) N (fun v4 M5 => gd (fO M5 a0 5) N (bnd2 (cal n (fun n => f_X5_spotOf n a0 v4 M5)) N (fun v11 M12 => gd (fO M12 a0 5) N (bnd2 (cal n (fun n => f_X5_truthAt n a0 v11 M12)) N (fun v18 M19 => J 30 [.ref a0, .ref a1, .int x2, .int x3, .long (j4 &&& v18), .int (x6 + 1)] M19))))))
set_option maxHeartbeats 4000000 in
set_option maxRecDepth 100000 in
theorem n_X5_leastAgainst_30.{u, v} {α : Sort u} {β : Sort v} (h : α → β) (J : Nat → List Value → Mem → α) (R : Int32 → Mem → α) (N : α) (n : Nat) (a0 : Nat) (a1 : Nat) (x2 : Int32) (x3 : Int32) (j4 : Int64) (x6 : Int32) (M : Mem) : h (T_X5_leastAgainst_30 J R N n a0 a1 x2 x3 j4 x6 M) = T_X5_leastAgainst_30 (fun c l M => h (J c l M)) (fun v M => h (R v M)) (h N) n a0 a1 x2 x3 j4 x6 M := by
  simp only [T_X5_leastAgainst_30, nat_ite h, nat_gd h, nat_bnd h, nat_bnd2 h]
set_option maxHeartbeats 4000000 in
set_option maxRecDepth 100000 in
theorem w_X5_leastAgainst_30 {X : Nat × (Nat → Int32)} {al : Bool} {n : Nat} {Q : Option Value → Mem → Prop} {J : Nat → List Value → Mem → Prop} (hJ : ∀ c l M, J c l M → PW_X5_leastAgainst X al n Q c l M) {R : Int32 → Mem → Prop} (hR : ∀ v M, R v M → Q (some (.int v)) M) {a0 : Nat} {a1 : Nat} {x2 : Int32} {x3 : Int32} {j4 : Int64} {x6 : Int32} {M : Mem} (h : T_X5_leastAgainst_30 J R False n a0 a1 x2 x3 j4 x6 M) : AW X (RX5, cX5_leastAgainst, 7, (some .int), false, al, n) 0 0 30 [(0, .ref a0), (1, .ref a1), (2, .int x2), (3, .int x3), (4, .long j4), (6, .int x6)] [] M Q := by
  unfold T_X5_leastAgainst_30 at h
  refine a_iload dX5_leastAgainst_30 rfl ?_
  refine a_aload_n dX5_leastAgainst_32 rfl rfl ?_
  obtain ⟨⟨ga1, gs2⟩, h⟩ := gd_t h
  refine a_getN (v := .int (M.2.2.1 a1 3)) dX5_leastAgainst_33 fn_5_85 ga1 gs2 rfl ?_
  refine a_icmp_ge 64 dX5_leastAgainst_36 (by decide) (fun c3 => ?_) (fun c3 => ?_)
  · replace h := ite_t c3 h
    refine a_iconst (v := 0) dX5_leastAgainst_64 (by decide) ?_
    refine a_istore dX5_leastAgainst_65 (Nat.le_of_ble_eq_true rfl) (lv2 := [(6, .int 0), (0, .ref a0), (1, .ref a1), (2, .int x2), (3, .int x3), (4, .long j4)]) rfl ?_
    exact a_lv (lv2 := [(0, .ref a0), (1, .ref a1), (2, .int x2), (3, .int x3), (4, .long j4), (6, .int 0)]) (fa_cons rfl (fa_cons rfl (fa_cons rfl (fa_cons rfl (fa_cons rfl (fa_cons rfl fa_nil)))))) (hJ _ _ _ h)
  · replace h := ite_f c3 h
    refine a_lload dX5_leastAgainst_39 rfl ?_
    refine a_aload_n dX5_leastAgainst_41 rfl rfl ?_
    refine a_aload_n dX5_leastAgainst_42 rfl rfl ?_
    refine a_aload_n dX5_leastAgainst_43 rfl rfl ?_
    refine a_iload dX5_leastAgainst_44 rfl ?_
    obtain ⟨v4, M5, e6, h⟩ := bnd2_t h
    obtain ⟨n7, en8, e6⟩ := cal_t e6
    refine e_callV (As := [.int x6]) (st := [.ref a0, .ref a0, .long j4]) (a := a1) (ci := 2) false dX5_leastAgainst_46 mw_X2_formulaOf (Or.inl ⟨rfl, ml_X5_86⟩) im_X2_formulaOf se_X2_formulaOf (by decide) ga1 gs2 rfl (Nat.le_of_ble_eq_true rfl) en8 (s_X2_formulaOf e6) ?_
    obtain ⟨⟨ga9, gs10⟩, h⟩ := gd_t h
    obtain ⟨v11, M12, e13, h⟩ := bnd2_t h
    obtain ⟨n14, en15, e13⟩ := cal_t e13
    refine e_callV (As := [.int v4]) (st := [.ref a0, .long j4]) (a := a0) (ci := 5) false dX5_leastAgainst_49 mw_X5_spotOf (Or.inl ⟨rfl, ml_X5_65⟩) im_X5_spotOf se_X5_spotOf (by decide) ga9 gs10 rfl (Nat.le_of_ble_eq_true rfl) en15 (s_X5_spotOf e13) ?_
    obtain ⟨⟨ga16, gs17⟩, h⟩ := gd_t h
    obtain ⟨v18, M19, e20, h⟩ := bnd2_t h
    obtain ⟨n21, en22, e20⟩ := cal_t e20
    refine e_callV (As := [.int v11]) (st := [.long j4]) (a := a0) (ci := 5) false dX5_leastAgainst_52 mw_X5_truthAt (Or.inl ⟨rfl, ml_X5_79⟩) im_X5_truthAt se_X5_truthAt (by decide) ga16 gs17 rfl (Nat.le_of_ble_eq_true rfl) en22 (s_X5_truthAt e20) ?_
    refine a_land dX5_leastAgainst_55 ?_
    refine a_lstore dX5_leastAgainst_56 (Nat.le_of_ble_eq_true rfl) (lv2 := [(4, .long (j4 &&& v18)), (0, .ref a0), (1, .ref a1), (2, .int x2), (3, .int x3), (6, .int x6)]) rfl ?_
    refine a_iinc (v := (x6 + 1)) dX5_leastAgainst_58 rfl (by first | rfl | decide) (Nat.le_of_ble_eq_true rfl) (lv2 := [(6, .int (x6 + 1)), (4, .long (j4 &&& v18)), (0, .ref a0), (1, .ref a1), (2, .int x2), (3, .int x3)]) rfl ?_
    refine a_goto 30 dX5_leastAgainst_61 (by decide) ?_
    exact a_lv (lv2 := [(0, .ref a0), (1, .ref a1), (2, .int x2), (3, .int x3), (4, .long (j4 &&& v18)), (6, .int (x6 + 1))]) (fa_cons rfl (fa_cons rfl (fa_cons rfl (fa_cons rfl (fa_cons rfl (fa_cons rfl fa_nil)))))) (hJ _ _ _ h)
set_option maxHeartbeats 4000000 in
set_option maxRecDepth 100000 in
noncomputable def T_X5_leastAgainst_67.{u} {α : Sort u} (J : Nat → List Value → Mem → α) (R : Int32 → Mem → α) (N : α) (n : Nat) (a0 : Nat) (a1 : Nat) (x2 : Int32) (x3 : Int32) (j4 : Int64) (x6 : Int32) (M : Mem) : α := if 64 ≤ x6 then J 2 [.ref a0, .ref a1, .int x2, .int (x3 + 1)] M else if (lg_cmp ((lushr j4 x6) &&& 1) 0) = 0 then J 67 [.ref a0, .ref a1, .int x2, .int x3, .long j4, .int (x6 + 1)] M else R ((x3 * 64) + x6) M
set_option maxHeartbeats 4000000 in
set_option maxRecDepth 100000 in
theorem n_X5_leastAgainst_67.{u, v} {α : Sort u} {β : Sort v} (h : α → β) (J : Nat → List Value → Mem → α) (R : Int32 → Mem → α) (N : α) (n : Nat) (a0 : Nat) (a1 : Nat) (x2 : Int32) (x3 : Int32) (j4 : Int64) (x6 : Int32) (M : Mem) : h (T_X5_leastAgainst_67 J R N n a0 a1 x2 x3 j4 x6 M) = T_X5_leastAgainst_67 (fun c l M => h (J c l M)) (fun v M => h (R v M)) (h N) n a0 a1 x2 x3 j4 x6 M := by
  simp only [T_X5_leastAgainst_67, nat_ite h, nat_gd h, nat_bnd h, nat_bnd2 h]
set_option maxHeartbeats 4000000 in
set_option maxRecDepth 100000 in
theorem w_X5_leastAgainst_67 {X : Nat × (Nat → Int32)} {al : Bool} {n : Nat} {Q : Option Value → Mem → Prop} {J : Nat → List Value → Mem → Prop} (hJ : ∀ c l M, J c l M → PW_X5_leastAgainst X al n Q c l M) {R : Int32 → Mem → Prop} (hR : ∀ v M, R v M → Q (some (.int v)) M) {a0 : Nat} {a1 : Nat} {x2 : Int32} {x3 : Int32} {j4 : Int64} {x6 : Int32} {M : Mem} (h : T_X5_leastAgainst_67 J R False n a0 a1 x2 x3 j4 x6 M) : AW X (RX5, cX5_leastAgainst, 7, (some .int), false, al, n) 0 0 67 [(0, .ref a0), (1, .ref a1), (2, .int x2), (3, .int x3), (4, .long j4), (6, .int x6)] [] M Q := by
  unfold T_X5_leastAgainst_67 at h
  refine a_iload dX5_leastAgainst_67 rfl ?_
  refine a_bipush (v := 64) dX5_leastAgainst_69 (by decide) ?_
  refine a_icmp_ge 100 dX5_leastAgainst_71 (by decide) (fun c1 => ?_) (fun c1 => ?_)
  · replace h := ite_t c1 h
    refine a_iinc (v := (x3 + 1)) dX5_leastAgainst_100 rfl (by first | rfl | decide) (Nat.le_of_ble_eq_true rfl) (lv2 := [(3, .int (x3 + 1)), (0, .ref a0), (1, .ref a1), (2, .int x2), (4, .long j4), (6, .int x6)]) rfl ?_
    refine a_goto 2 dX5_leastAgainst_103 (by decide) ?_
    exact a_lv (lv2 := [(0, .ref a0), (1, .ref a1), (2, .int x2), (3, .int (x3 + 1))]) (fa_cons rfl (fa_cons rfl (fa_cons rfl (fa_cons rfl fa_nil)))) (hJ _ _ _ h)
  · replace h := ite_f c1 h
    refine a_lload dX5_leastAgainst_74 rfl ?_
    refine a_iload dX5_leastAgainst_76 rfl ?_
    refine a_lushr dX5_leastAgainst_78 ?_
    refine a_lconst (v := 1) dX5_leastAgainst_79 (by decide) ?_
    refine a_land dX5_leastAgainst_80 ?_
    refine a_lconst (v := 0) dX5_leastAgainst_81 (by decide) ?_
    refine a_lcmp dX5_leastAgainst_82 ?_
    refine a_if_eq 94 dX5_leastAgainst_83 (by decide) (fun c2 => ?_) (fun c2 => ?_)
    · replace h := ite_t c2 h
      refine a_iinc (v := (x6 + 1)) dX5_leastAgainst_94 rfl (by first | rfl | decide) (Nat.le_of_ble_eq_true rfl) (lv2 := [(6, .int (x6 + 1)), (0, .ref a0), (1, .ref a1), (2, .int x2), (3, .int x3), (4, .long j4)]) rfl ?_
      refine a_goto 67 dX5_leastAgainst_97 (by decide) ?_
      exact a_lv (lv2 := [(0, .ref a0), (1, .ref a1), (2, .int x2), (3, .int x3), (4, .long j4), (6, .int (x6 + 1))]) (fa_cons rfl (fa_cons rfl (fa_cons rfl (fa_cons rfl (fa_cons rfl (fa_cons rfl fa_nil)))))) (hJ _ _ _ h)
    · replace h := ite_f c2 h
      refine a_iload_n dX5_leastAgainst_86 rfl rfl ?_
      refine a_bipush (v := 64) dX5_leastAgainst_87 (by decide) ?_
      refine a_imul dX5_leastAgainst_89 ?_
      refine a_iload dX5_leastAgainst_90 rfl ?_
      refine a_iadd dX5_leastAgainst_92 ?_
      exact a_iret dX5_leastAgainst_93 rfl (hR _ _ h)
set_option maxHeartbeats 4000000 in
set_option maxRecDepth 100000 in
noncomputable def st_X5_leastAgainst (n : Nat) (s : Sg) : Option (Sg ⊕ (Int32 × Mem)) := if s.1 = 0 then vR s.2.1 none (fun a0 t => vR t none (fun a1 t => vI t none (fun x2 t => vE t none (T_X5_leastAgainst_0 (fun c l M => some (.inl (c, l, M))) (fun v M => some (.inr (v, M))) none n a0 a1 x2 s.2.2)))) else if s.1 = 2 then vR s.2.1 none (fun a0 t => vR t none (fun a1 t => vI t none (fun x2 t => vI t none (fun x3 t => vE t none (T_X5_leastAgainst_2 (fun c l M => some (.inl (c, l, M))) (fun v M => some (.inr (v, M))) none n a0 a1 x2 x3 s.2.2))))) else if s.1 = 30 then vR s.2.1 none (fun a0 t => vR t none (fun a1 t => vI t none (fun x2 t => vI t none (fun x3 t => vJ t none (fun j4 t => vI t none (fun x6 t => vE t none (T_X5_leastAgainst_30 (fun c l M => some (.inl (c, l, M))) (fun v M => some (.inr (v, M))) none n a0 a1 x2 x3 j4 x6 s.2.2))))))) else if s.1 = 67 then vR s.2.1 none (fun a0 t => vR t none (fun a1 t => vI t none (fun x2 t => vI t none (fun x3 t => vJ t none (fun j4 t => vI t none (fun x6 t => vE t none (T_X5_leastAgainst_67 (fun c l M => some (.inl (c, l, M))) (fun v M => some (.inr (v, M))) none n a0 a1 x2 x3 j4 x6 s.2.2))))))) else none
noncomputable abbrev g_X5_leastAgainst_0 (n : Nat) (a0 : Nat) (a1 : Nat) (x2 : Int32) (M : Mem) : Option (Int32 × Mem) := lp (st_X5_leastAgainst n) (0, [.ref a0, .ref a1, .int x2], M)
set_option maxHeartbeats 4000000 in
set_option maxRecDepth 100000 in
theorem ge_X5_leastAgainst_0 (n : Nat) (a0 : Nat) (a1 : Nat) (x2 : Int32) (M : Mem) : g_X5_leastAgainst_0 n a0 a1 x2 M = T_X5_leastAgainst_0 (fun c l M => lp (st_X5_leastAgainst n) (c, l, M)) (fun v M => some (v, M)) none n a0 a1 x2 M := (lp_eq _ _).trans (n_X5_leastAgainst_0 (lpK (st_X5_leastAgainst n)) (fun c l M => some (.inl (c, l, M))) (fun v M => some (.inr (v, M))) none n a0 a1 x2 M)
noncomputable abbrev g_X5_leastAgainst_2 (n : Nat) (a0 : Nat) (a1 : Nat) (x2 : Int32) (x3 : Int32) (M : Mem) : Option (Int32 × Mem) := lp (st_X5_leastAgainst n) (2, [.ref a0, .ref a1, .int x2, .int x3], M)
set_option maxHeartbeats 4000000 in
set_option maxRecDepth 100000 in
theorem ge_X5_leastAgainst_2 (n : Nat) (a0 : Nat) (a1 : Nat) (x2 : Int32) (x3 : Int32) (M : Mem) : g_X5_leastAgainst_2 n a0 a1 x2 x3 M = T_X5_leastAgainst_2 (fun c l M => lp (st_X5_leastAgainst n) (c, l, M)) (fun v M => some (v, M)) none n a0 a1 x2 x3 M := (lp_eq _ _).trans (n_X5_leastAgainst_2 (lpK (st_X5_leastAgainst n)) (fun c l M => some (.inl (c, l, M))) (fun v M => some (.inr (v, M))) none n a0 a1 x2 x3 M)
noncomputable abbrev g_X5_leastAgainst_30 (n : Nat) (a0 : Nat) (a1 : Nat) (x2 : Int32) (x3 : Int32) (j4 : Int64) (x6 : Int32) (M : Mem) : Option (Int32 × Mem) := lp (st_X5_leastAgainst n) (30, [.ref a0, .ref a1, .int x2, .int x3, .long j4, .int x6], M)
set_option maxHeartbeats 4000000 in
set_option maxRecDepth 100000 in
theorem ge_X5_leastAgainst_30 (n : Nat) (a0 : Nat) (a1 : Nat) (x2 : Int32) (x3 : Int32) (j4 : Int64) (x6 : Int32) (M : Mem) : g_X5_leastAgainst_30 n a0 a1 x2 x3 j4 x6 M = T_X5_leastAgainst_30 (fun c l M => lp (st_X5_leastAgainst n) (c, l, M)) (fun v M => some (v, M)) none n a0 a1 x2 x3 j4 x6 M := (lp_eq _ _).trans (n_X5_leastAgainst_30 (lpK (st_X5_leastAgainst n)) (fun c l M => some (.inl (c, l, M))) (fun v M => some (.inr (v, M))) none n a0 a1 x2 x3 j4 x6 M)
noncomputable abbrev g_X5_leastAgainst_67 (n : Nat) (a0 : Nat) (a1 : Nat) (x2 : Int32) (x3 : Int32) (j4 : Int64) (x6 : Int32) (M : Mem) : Option (Int32 × Mem) := lp (st_X5_leastAgainst n) (67, [.ref a0, .ref a1, .int x2, .int x3, .long j4, .int x6], M)
set_option maxHeartbeats 4000000 in
set_option maxRecDepth 100000 in
theorem ge_X5_leastAgainst_67 (n : Nat) (a0 : Nat) (a1 : Nat) (x2 : Int32) (x3 : Int32) (j4 : Int64) (x6 : Int32) (M : Mem) : g_X5_leastAgainst_67 n a0 a1 x2 x3 j4 x6 M = T_X5_leastAgainst_67 (fun c l M => lp (st_X5_leastAgainst n) (c, l, M)) (fun v M => some (v, M)) none n a0 a1 x2 x3 j4 x6 M := (lp_eq _ _).trans (n_X5_leastAgainst_67 (lpK (st_X5_leastAgainst n)) (fun c l M => some (.inl (c, l, M))) (fun v M => some (.inr (v, M))) none n a0 a1 x2 x3 j4 x6 M)
noncomputable def b_X5_leastAgainst (n : Nat) (a0 : Nat) (a1 : Nat) (x2 : Int32) (M : Mem) : Option (Int32 × Mem) := g_X5_leastAgainst_0 n a0 a1 x2 M
set_option maxHeartbeats 4000000 in
set_option maxRecDepth 100000 in
theorem sb_X5_leastAgainst {X : Nat × (Nat → Int32)} {al : Bool} {n : Nat} {a0 : Nat} {a1 : Nat} {x2 : Int32} {M : Mem} {v : Int32} {M1 : Mem} (h : b_X5_leastAgainst n a0 a1 x2 M = some (v, M1)) : AE yX5_leastAgainst cX5_leastAgainst 7 (some .int) al n X [.ref a0, .ref a1, .int x2] M (some (.int v)) M1 := by
  refine AM.of false (by decide +kernel) (by intro h; cases h) (Nat.le_of_ble_eq_true rfl) ?_
  refine lp_snd (P := fun s r => PW_X5_leastAgainst X al n (fun v M2 => v = (some (.int r.1)) ∧ M2 = r.2) s.1 s.2.1 s.2.2) ?_ h
  clear h
  rintro ⟨c, l, M⟩ r h
  unfold st_X5_leastAgainst at h
  rcases ite_p h with ⟨e, h⟩ | ⟨e, h⟩
  · replace e : c = 0 := e
    subst e
    obtain ⟨a0, tt0, e, h⟩ := vR_p id h
    replace e : l = _ := e
    subst e
    obtain ⟨a1, tt1, e, h⟩ := vR_p id h
    replace e : tt0 = _ := e
    subst e
    obtain ⟨x2, tt2, e, h⟩ := vI_p id h
    replace e : tt1 = _ := e
    subst e
    obtain ⟨e, h⟩ := vE_p id h
    replace e : tt2 = [] := e
    subst e
    exact w_X5_leastAgainst_0 (J := fun c l M => PW_X5_leastAgainst X al n (fun v M2 => v = (some (.int r.1)) ∧ M2 = r.2) c l M) (R := fun v M => (v, M) = r) (fun _ _ _ h => h) (fun v M h => by cases h; exact ⟨rfl, rfl⟩) ((n_X5_leastAgainst_0 (lpP (fun (s : Sg) (r : Int32 × Mem) => PW_X5_leastAgainst X al n (fun v M2 => v = (some (.int r.1)) ∧ M2 = r.2) s.1 s.2.1 s.2.2) r) (fun c l M => some (.inl (c, l, M))) (fun v M => some (.inr (v, M))) none n a0 a1 x2 M).mp h)
  rcases ite_p h with ⟨e, h⟩ | ⟨e, h⟩
  · replace e : c = 2 := e
    subst e
    obtain ⟨a0, tt0, e, h⟩ := vR_p id h
    replace e : l = _ := e
    subst e
    obtain ⟨a1, tt1, e, h⟩ := vR_p id h
    replace e : tt0 = _ := e
    subst e
    obtain ⟨x2, tt2, e, h⟩ := vI_p id h
    replace e : tt1 = _ := e
    subst e
    obtain ⟨x3, tt3, e, h⟩ := vI_p id h
    replace e : tt2 = _ := e
    subst e
    obtain ⟨e, h⟩ := vE_p id h
    replace e : tt3 = [] := e
    subst e
    exact w_X5_leastAgainst_2 (J := fun c l M => PW_X5_leastAgainst X al n (fun v M2 => v = (some (.int r.1)) ∧ M2 = r.2) c l M) (R := fun v M => (v, M) = r) (fun _ _ _ h => h) (fun v M h => by cases h; exact ⟨rfl, rfl⟩) ((n_X5_leastAgainst_2 (lpP (fun (s : Sg) (r : Int32 × Mem) => PW_X5_leastAgainst X al n (fun v M2 => v = (some (.int r.1)) ∧ M2 = r.2) s.1 s.2.1 s.2.2) r) (fun c l M => some (.inl (c, l, M))) (fun v M => some (.inr (v, M))) none n a0 a1 x2 x3 M).mp h)
  rcases ite_p h with ⟨e, h⟩ | ⟨e, h⟩
  · replace e : c = 30 := e
    subst e
    obtain ⟨a0, tt0, e, h⟩ := vR_p id h
    replace e : l = _ := e
    subst e
    obtain ⟨a1, tt1, e, h⟩ := vR_p id h
    replace e : tt0 = _ := e
    subst e
    obtain ⟨x2, tt2, e, h⟩ := vI_p id h
    replace e : tt1 = _ := e
    subst e
    obtain ⟨x3, tt3, e, h⟩ := vI_p id h
    replace e : tt2 = _ := e
    subst e
    obtain ⟨j4, tt4, e, h⟩ := vJ_p id h
    replace e : tt3 = _ := e
    subst e
    obtain ⟨x6, tt5, e, h⟩ := vI_p id h
    replace e : tt4 = _ := e
    subst e
    obtain ⟨e, h⟩ := vE_p id h
    replace e : tt5 = [] := e
    subst e
    exact w_X5_leastAgainst_30 (J := fun c l M => PW_X5_leastAgainst X al n (fun v M2 => v = (some (.int r.1)) ∧ M2 = r.2) c l M) (R := fun v M => (v, M) = r) (fun _ _ _ h => h) (fun v M h => by cases h; exact ⟨rfl, rfl⟩) ((n_X5_leastAgainst_30 (lpP (fun (s : Sg) (r : Int32 × Mem) => PW_X5_leastAgainst X al n (fun v M2 => v = (some (.int r.1)) ∧ M2 = r.2) s.1 s.2.1 s.2.2) r) (fun c l M => some (.inl (c, l, M))) (fun v M => some (.inr (v, M))) none n a0 a1 x2 x3 j4 x6 M).mp h)
  rcases ite_p h with ⟨e, h⟩ | ⟨e, h⟩
  · replace e : c = 67 := e
    subst e
    obtain ⟨a0, tt0, e, h⟩ := vR_p id h
    replace e : l = _ := e
    subst e
    obtain ⟨a1, tt1, e, h⟩ := vR_p id h
    replace e : tt0 = _ := e
    subst e
    obtain ⟨x2, tt2, e, h⟩ := vI_p id h
    replace e : tt1 = _ := e
    subst e
    obtain ⟨x3, tt3, e, h⟩ := vI_p id h
    replace e : tt2 = _ := e
    subst e
    obtain ⟨j4, tt4, e, h⟩ := vJ_p id h
    replace e : tt3 = _ := e
    subst e
    obtain ⟨x6, tt5, e, h⟩ := vI_p id h
    replace e : tt4 = _ := e
    subst e
    obtain ⟨e, h⟩ := vE_p id h
    replace e : tt5 = [] := e
    subst e
    exact w_X5_leastAgainst_67 (J := fun c l M => PW_X5_leastAgainst X al n (fun v M2 => v = (some (.int r.1)) ∧ M2 = r.2) c l M) (R := fun v M => (v, M) = r) (fun _ _ _ h => h) (fun v M h => by cases h; exact ⟨rfl, rfl⟩) ((n_X5_leastAgainst_67 (lpP (fun (s : Sg) (r : Int32 × Mem) => PW_X5_leastAgainst X al n (fun v M2 => v = (some (.int r.1)) ∧ M2 = r.2) s.1 s.2.1 s.2.2) r) (fun c l M => some (.inl (c, l, M))) (fun v M => some (.inr (v, M))) none n a0 a1 x2 x3 j4 x6 M).mp h)
  · exact h.elim

noncomputable abbrev f_X5_leastAgainst := b_X5_leastAgainst
theorem s_X5_leastAgainst {X : Nat × (Nat → Int32)} {al : Bool} {n : Nat} {a0 : Nat} {a1 : Nat} {x2 : Int32} {M : Mem} {v : Int32} {M1 : Mem} (h : f_X5_leastAgainst n a0 a1 x2 M = some (v, M1)) : AE yX5_leastAgainst cX5_leastAgainst 7 (some .int) al n X [.ref a0, .ref a1, .int x2] M (some (.int v)) M1 := sb_X5_leastAgainst h
set_option maxHeartbeats 4000000 in
set_option maxRecDepth 100000 in
noncomputable def T_X10_against_0.{u} {α : Sort u} (R : Int32 → Mem → α) (N : α) (n : Nat) (a0 : Nat) (M : Mem) : α := gd (fO M a0 10) N (bnd (M.2.2.2.2 a0 11) N (fun r3 => bnd (M.2.2.2.2 a0 3) N (fun r5 => gd (fO M r3 5) N (bnd2 (cal n (fun n => f_X5_collect n r3 r5 (M.2.2.1 a0 16) M)) N (fun _ M9 => gd (fO M9 a0 10) N (bnd (M9.2.2.2.2 a0 11) N (fun r15 => bnd (M9.2.2.2.2 a0 3) N (fun r17 => gd (fO M9 r15 5) N (bnd2 (cal n (fun n => f_X5_leastAgainst n r15 r17 (M9.2.2.1 a0 16) M9)) N (fun v21 M22 => R v21 M22))))))))))
set_option maxHeartbeats 4000000 in
set_option maxRecDepth 100000 in
theorem n_X10_against_0.{u, v} {α : Sort u} {β : Sort v} (h : α → β) (R : Int32 → Mem → α) (N : α) (n : Nat) (a0 : Nat) (M : Mem) : h (T_X10_against_0 R N n a0 M) = T_X10_against_0 (fun v M => h (R v M)) (h N) n a0 M := by
  simp only [T_X10_against_0, nat_ite h, nat_gd h, nat_bnd h, nat_bnd2 h]
set_option maxHeartbeats 4000000 in
set_option maxRecDepth 100000 in
theorem w_X10_against_0 {X : Nat × (Nat → Int32)} {al : Bool} {n : Nat} {Q : Option Value → Mem → Prop} {R : Int32 → Mem → Prop} (hR : ∀ v M, R v M → Q (some (.int v)) M) {a0 : Nat} {M : Mem} (h : T_X10_against_0 R False n a0 M) : AW X (RX10, cX10_against, 1, (some .int), false, al, n) 0 0 0 [(0, .ref a0)] [] M Q := by
  unfold T_X10_against_0 at h
  refine a_aload_n dX10_against_0 rfl rfl ?_
  obtain ⟨⟨ga1, gs2⟩, h⟩ := gd_t h
  obtain ⟨r3, e4, h⟩ := bnd_t h
  refine a_get (v := .ref r3) dX10_against_1 fl_10_86 ga1 gs2 (gvR e4 rfl) ?_
  refine a_aload_n dX10_against_4 rfl rfl ?_
  obtain ⟨r5, e6, h⟩ := bnd_t h
  refine a_get (v := .ref r5) dX10_against_5 fl_10_23 ga1 gs2 (gvR e6 rfl) ?_
  refine a_aload_n dX10_against_8 rfl rfl ?_
  refine a_get (v := .int (M.2.2.1 a0 16)) dX10_against_9 fl_10_105 ga1 gs2 rfl ?_
  obtain ⟨⟨ga7, gs8⟩, h⟩ := gd_t h
  obtain ⟨_, M9, e10, h⟩ := bnd2_t h
  obtain ⟨n11, en12, e10⟩ := cal_t e10
  refine e_callV (As := [.ref r5, .int (M.2.2.1 a0 16)]) (st := []) (a := r3) (ci := 5) false dX10_against_12 mw_X5_collect (Or.inl ⟨rfl, ml_X10_321⟩) im_X5_collect se_X5_collect (by decide) ga7 gs8 rfl (Nat.le_of_ble_eq_true rfl) en12 (s_X5_collect e10) ?_
  refine a_aload_n dX10_against_15 rfl rfl ?_
  obtain ⟨⟨ga13, gs14⟩, h⟩ := gd_t h
  obtain ⟨r15, e16, h⟩ := bnd_t h
  refine a_get (v := .ref r15) dX10_against_16 fl_10_86 ga13 gs14 (gvR e16 rfl) ?_
  refine a_aload_n dX10_against_19 rfl rfl ?_
  obtain ⟨r17, e18, h⟩ := bnd_t h
  refine a_get (v := .ref r17) dX10_against_20 fl_10_23 ga13 gs14 (gvR e18 rfl) ?_
  refine a_aload_n dX10_against_23 rfl rfl ?_
  refine a_get (v := .int (M9.2.2.1 a0 16)) dX10_against_24 fl_10_105 ga13 gs14 rfl ?_
  obtain ⟨⟨ga19, gs20⟩, h⟩ := gd_t h
  obtain ⟨v21, M22, e23, h⟩ := bnd2_t h
  obtain ⟨n24, en25, e23⟩ := cal_t e23
  refine e_callV (As := [.ref r17, .int (M9.2.2.1 a0 16)]) (st := []) (a := r15) (ci := 5) false dX10_against_27 mw_X5_leastAgainst (Or.inl ⟨rfl, ml_X10_332⟩) im_X5_leastAgainst se_X5_leastAgainst (by decide) ga19 gs20 rfl (Nat.le_of_ble_eq_true rfl) en25 (s_X5_leastAgainst e23) ?_
  exact a_iret dX10_against_30 rfl (hR _ _ h)
noncomputable def b_X10_against (n : Nat) (a0 : Nat) (M : Mem) : Option (Int32 × Mem) := T_X10_against_0 (fun v M => some (v, M)) none n a0 M
set_option maxHeartbeats 4000000 in
set_option maxRecDepth 100000 in
theorem sb_X10_against {X : Nat × (Nat → Int32)} {al : Bool} {n : Nat} {a0 : Nat} {M : Mem} {v : Int32} {M1 : Mem} (h : b_X10_against n a0 M = some (v, M1)) : AE yX10_against cX10_against 1 (some .int) al n X [.ref a0] M (some (.int v)) M1 := by
  refine AM.of false (by decide +kernel) (by intro h; cases h) (Nat.le_of_ble_eq_true rfl) ?_
  have h2 : T_X10_against_0 (fun v2 M2 => some (v2, M2) = some (v, M1)) (none = some (v, M1)) n a0 M := (n_X10_against_0 (fun o => o = some (v, M1)) (fun v M => some (v, M)) none n a0 M).mp h
  have h3 : ((none : Option (Int32 × Mem)) = some (v, M1)) = False := eq_false (by intro q; cases q)
  rw [h3] at h2
  exact w_X10_against_0 (fun v2 M2 h => by cases h; exact ⟨rfl, rfl⟩) h2

noncomputable abbrev f_X10_against := b_X10_against
theorem s_X10_against {X : Nat × (Nat → Int32)} {al : Bool} {n : Nat} {a0 : Nat} {M : Mem} {v : Int32} {M1 : Mem} (h : f_X10_against n a0 M = some (v, M1)) : AE yX10_against cX10_against 1 (some .int) al n X [.ref a0] M (some (.int v)) M1 := sb_X10_against h
set_option maxHeartbeats 4000000 in
set_option maxRecDepth 100000 in
noncomputable def T_X10_classical_0.{u} {α : Sort u} (R : Int32 → Mem → α) (N : α) (n : Nat) (a0 : Nat) (M : Mem) : α := gd (fO M a0 10) N (bnd2 (cal n (fun n => f_X10_against n a0 M)) N (fun v3 M4 => if v3 = (-1) then R 1 M4 else R 0 M4))
set_option maxHeartbeats 4000000 in
set_option maxRecDepth 100000 in
theorem n_X10_classical_0.{u, v} {α : Sort u} {β : Sort v} (h : α → β) (R : Int32 → Mem → α) (N : α) (n : Nat) (a0 : Nat) (M : Mem) : h (T_X10_classical_0 R N n a0 M) = T_X10_classical_0 (fun v M => h (R v M)) (h N) n a0 M := by
  simp only [T_X10_classical_0, nat_ite h, nat_gd h, nat_bnd h, nat_bnd2 h]
set_option maxHeartbeats 4000000 in
set_option maxRecDepth 100000 in
theorem w_X10_classical_0 {X : Nat × (Nat → Int32)} {al : Bool} {n : Nat} {Q : Option Value → Mem → Prop} {R : Int32 → Mem → Prop} (hR : ∀ v M, R v M → Q (some (.int v)) M) {a0 : Nat} {M : Mem} (h : T_X10_classical_0 R False n a0 M) : AW X (RX10, cX10_classical, 1, (some .int), false, al, n) 0 0 0 [(0, .ref a0)] [] M Q := by
  unfold T_X10_classical_0 at h
  refine a_aload_n dX10_classical_0 rfl rfl ?_
  obtain ⟨⟨ga1, gs2⟩, h⟩ := gd_t h
  obtain ⟨v3, M4, e5, h⟩ := bnd2_t h
  obtain ⟨n6, en7, e5⟩ := cal_t e5
  refine e_callV (As := []) (st := []) (a := a0) (ci := 10) false dX10_classical_1 mw_X10_against (Or.inl ⟨rfl, ml_X10_329⟩) im_X10_against se_X10_against (by decide) ga1 gs2 rfl (Nat.le_of_ble_eq_true rfl) en7 (s_X10_against e5) ?_
  refine a_iconst (v := -1) dX10_classical_4 (by decide) ?_
  refine a_icmp_ne 12 dX10_classical_5 (by decide) (fun c8 => ?_) (fun c8 => ?_)
  · replace h := ite_f c8 h
    refine a_iconst (v := 0) dX10_classical_12 (by decide) ?_
    exact a_iret dX10_classical_13 rfl (hR _ _ h)
  · replace h := ite_t c8 h
    refine a_iconst (v := 1) dX10_classical_8 (by decide) ?_
    refine a_goto 13 dX10_classical_9 (by decide) ?_
    exact a_iret dX10_classical_13 rfl (hR _ _ h)
noncomputable def b_X10_classical (n : Nat) (a0 : Nat) (M : Mem) : Option (Int32 × Mem) := T_X10_classical_0 (fun v M => some (v, M)) none n a0 M
set_option maxHeartbeats 4000000 in
set_option maxRecDepth 100000 in
theorem sb_X10_classical {X : Nat × (Nat → Int32)} {al : Bool} {n : Nat} {a0 : Nat} {M : Mem} {v : Int32} {M1 : Mem} (h : b_X10_classical n a0 M = some (v, M1)) : AE yX10_classical cX10_classical 1 (some .int) al n X [.ref a0] M (some (.int v)) M1 := by
  refine AM.of false (by decide +kernel) (by intro h; cases h) (Nat.le_of_ble_eq_true rfl) ?_
  have h2 : T_X10_classical_0 (fun v2 M2 => some (v2, M2) = some (v, M1)) (none = some (v, M1)) n a0 M := (n_X10_classical_0 (fun o => o = some (v, M1)) (fun v M => some (v, M)) none n a0 M).mp h
  have h3 : ((none : Option (Int32 × Mem)) = some (v, M1)) = False := eq_false (by intro q; cases q)
  rw [h3] at h2
  exact w_X10_classical_0 (fun v2 M2 h => by cases h; exact ⟨rfl, rfl⟩) h2

noncomputable abbrev f_X10_classical := b_X10_classical
theorem s_X10_classical {X : Nat × (Nat → Int32)} {al : Bool} {n : Nat} {a0 : Nat} {M : Mem} {v : Int32} {M1 : Mem} (h : f_X10_classical n a0 M = some (v, M1)) : AE yX10_classical cX10_classical 1 (some .int) al n X [.ref a0] M (some (.int v)) M1 := sb_X10_classical h
set_option maxHeartbeats 4000000 in
set_option maxRecDepth 100000 in
noncomputable def T_X11_isTrue_0.{u} {α : Sort u} (R : Int32 → Mem → α) (N : α) (cl : Nat → List Value → Mem → Option (Int32 × Mem)) (n : Nat) (a0 : Nat) (x1 : Int32) (x2 : Int32) (M : Mem) : α := gd (fO M a0 11) N (bnd (M.2.2.2.2 a0 1) N (fun r3 => gd (fA M r3 1 x1) N (if (M.2.2.1 r3 (x1.toNatClampNeg)) = 8 then R 0 M else if (M.2.2.1 r3 (x1.toNatClampNeg)) = 9 then bnd (M.2.2.2.2 a0 2) N (fun r11 => gd (fA M r11 1 x1) N (bnd2 (cl 0 [.ref a0, .int (M.2.2.1 r11 (x1.toNatClampNeg)), .int x2] M) N (fun v17 M18 => if v17 = 0 then R 1 M18 else gd (fO M18 a0 11) N (bnd (M18.2.2.2.2 a0 3) N (fun r25 => gd (fA M18 r25 1 x1) N (bnd2 (cl 0 [.ref a0, .int (M18.2.2.1 r25 (x1.toNatClampNeg)), .int x2] M18) N (fun v31 M32 => if v31 = 0 then R 0 M32 else R 1 M32))))))) else if (M.2.2.1 r3 (x1.toNatClampNeg)) = 10 then bnd (M.2.2.2.2 a0 2) N (fun r38 => gd (fA M r38 1 x1) N (bnd2 (cl 0 [.ref a0, .int (M.2.2.1 r38 (x1.toNatClampNeg)), .int x2] M) N (fun v44 M45 => if v44 = 0 then R 0 M45 else gd (fO M45 a0 11) N (bnd (M45.2.2.2.2 a0 3) N (fun r52 => gd (fA M45 r52 1 x1) N (bnd2 (cl 0 [.ref a0, .int (M45.2.2.1 r52 (x1.toNatClampNeg)), .int x2] M45) N (fun v58 M59 => if v58 = 0 then R 0 M59 else R 1 M59))))))) else if (M.2.2.1 r3 (x1.toNatClampNeg)) = 11 then bnd (M.2.2.2.2 a0 2) N (fun r65 => gd (fA M r65 1 x1) N (bnd2 (cl 0 [.ref a0, .int (M.2.2.1 r65 (x1.toNatClampNeg)), .int x2] M) N (fun v71 M72 => if v71 = 0 then gd (fO M72 a0 11) N (bnd (M72.2.2.2.2 a0 3) N (fun r79 => gd (fA M72 r79 1 x1) N (bnd2 (cl 0 [.ref a0, .int (M72.2.2.1 r79 (x1.toNatClampNeg)), .int x2] M72) N (fun v85 M86 => if v85 = 0 then R 0 M86 else R 1 M86)))) else R 1 M72))) else if ((x2 >>> ((M.2.2.1 r3 (x1.toNatClampNeg)) &&& 31)) &&& 1) = 1 then R 1 M else R 0 M)))
set_option maxHeartbeats 4000000 in
set_option maxRecDepth 100000 in
theorem n_X11_isTrue_0.{u, v} {α : Sort u} {β : Sort v} (h : α → β) (R : Int32 → Mem → α) (N : α) (cl : Nat → List Value → Mem → Option (Int32 × Mem)) (n : Nat) (a0 : Nat) (x1 : Int32) (x2 : Int32) (M : Mem) : h (T_X11_isTrue_0 R N cl n a0 x1 x2 M) = T_X11_isTrue_0 (fun v M => h (R v M)) (h N) cl n a0 x1 x2 M := by
  simp only [T_X11_isTrue_0, nat_ite h, nat_gd h, nat_bnd h, nat_bnd2 h]
set_option maxHeartbeats 4000000 in
set_option maxRecDepth 100000 in
theorem w_X11_isTrue_0 {X : Nat × (Nat → Int32)} {al : Bool} {n : Nat} {Q : Option Value → Mem → Prop} {R : Int32 → Mem → Prop} (hR : ∀ v M, R v M → Q (some (.int v)) M) {cl : Nat → List Value → Mem → Option (Int32 × Mem)} (hc_X11_isTrue : ∀ {a0 : Nat} {x1 : Int32} {x2 : Int32} {M : Mem} {v : Int32} {M1 : Mem}, cl 0 [.ref a0, .int x1, .int x2] M = some (v, M1) → ∃ k, n = k + 1 ∧ AE yX11_isTrue cX11_isTrue 3 (some .boolean) al k X [.ref a0, .int x1, .int x2] M (some (.int v)) M1) {a0 : Nat} {x1 : Int32} {x2 : Int32} {M : Mem} (h : T_X11_isTrue_0 R False cl n a0 x1 x2 M) : AW X (RX11, cX11_isTrue, 3, (some .boolean), false, al, n) 0 0 0 [(0, .ref a0), (1, .int x1), (2, .int x2)] [] M Q := by
  unfold T_X11_isTrue_0 at h
  refine a_aload_n dX11_isTrue_0 rfl rfl ?_
  obtain ⟨⟨ga1, gs2⟩, h⟩ := gd_t h
  obtain ⟨r3, e4, h⟩ := bnd_t h
  refine a_get (v := .ref r3) dX11_isTrue_1 fl_11_13 ga1 gs2 (gvR e4 rfl) ?_
  refine a_iload_n dX11_isTrue_4 rfl rfl ?_
  obtain ⟨⟨ga5, gn6, gs7, gi8⟩, h⟩ := gd_t h
  refine a_iaload dX11_isTrue_5 ga5 gs7 gi8 ?_
  by_cases c9 : (M.2.2.1 r3 (x1.toNatClampNeg)) = 8
  · replace h := ite_t c9 h
    refine a_tableIn (off := 30) 36 dX11_isTrue_6 (by rw [c9]; decide) (by rw [c9]; decide) (by rw [c9]; rfl) (by decide) ?_
    refine a_iconst (v := 0) dX11_isTrue_36 (by decide) ?_
    exact a_zret dX11_isTrue_37 rfl rfl (hR _ _ h)
  replace h := ite_f c9 h
  by_cases c10 : (M.2.2.1 r3 (x1.toNatClampNeg)) = 9
  · replace h := ite_t c10 h
    refine a_tableIn (off := 32) 38 dX11_isTrue_6 (by rw [c10]; decide) (by rw [c10]; decide) (by rw [c10]; rfl) (by decide) ?_
    refine a_aload_n dX11_isTrue_38 rfl rfl ?_
    refine a_aload_n dX11_isTrue_39 rfl rfl ?_
    obtain ⟨r11, e12, h⟩ := bnd_t h
    refine a_get (v := .ref r11) dX11_isTrue_40 fl_11_17 ga1 gs2 (gvR e12 rfl) ?_
    refine a_iload_n dX11_isTrue_43 rfl rfl ?_
    obtain ⟨⟨ga13, gn14, gs15, gi16⟩, h⟩ := gd_t h
    refine a_iaload dX11_isTrue_44 ga13 gs15 gi16 ?_
    refine a_iload_n dX11_isTrue_45 rfl rfl ?_
    obtain ⟨v17, M18, e19, h⟩ := bnd2_t h
    obtain ⟨n20, en21, e19⟩ := hc_X11_isTrue e19
    refine e_callV (As := [.int (M.2.2.1 r11 (x1.toNatClampNeg)), .int x2]) (st := []) (a := a0) (ci := 11) false dX11_isTrue_46 mw_X11_isTrue (Or.inl ⟨rfl, ml_X11_456⟩) im_X11_isTrue se_X11_isTrue (by decide) ga1 gs2 rfl (Nat.le_of_ble_eq_true rfl) en21 e19 ?_
    refine a_if_eq 66 dX11_isTrue_49 (by decide) (fun c22 => ?_) (fun c22 => ?_)
    · replace h := ite_t c22 h
      refine a_iconst (v := 1) dX11_isTrue_66 (by decide) ?_
      refine a_goto 71 dX11_isTrue_67 (by decide) ?_
      exact a_zret dX11_isTrue_71 rfl rfl (hR _ _ h)
    · replace h := ite_f c22 h
      refine a_aload_n dX11_isTrue_52 rfl rfl ?_
      refine a_aload_n dX11_isTrue_53 rfl rfl ?_
      obtain ⟨⟨ga23, gs24⟩, h⟩ := gd_t h
      obtain ⟨r25, e26, h⟩ := bnd_t h
      refine a_get (v := .ref r25) dX11_isTrue_54 fl_11_20 ga23 gs24 (gvR e26 rfl) ?_
      refine a_iload_n dX11_isTrue_57 rfl rfl ?_
      obtain ⟨⟨ga27, gn28, gs29, gi30⟩, h⟩ := gd_t h
      refine a_iaload dX11_isTrue_58 ga27 gs29 gi30 ?_
      refine a_iload_n dX11_isTrue_59 rfl rfl ?_
      obtain ⟨v31, M32, e33, h⟩ := bnd2_t h
      obtain ⟨n34, en35, e33⟩ := hc_X11_isTrue e33
      refine e_callV (As := [.int (M18.2.2.1 r25 (x1.toNatClampNeg)), .int x2]) (st := []) (a := a0) (ci := 11) false dX11_isTrue_60 mw_X11_isTrue (Or.inl ⟨rfl, ml_X11_456⟩) im_X11_isTrue se_X11_isTrue (by decide) ga23 gs24 rfl (Nat.le_of_ble_eq_true rfl) en35 e33 ?_
      refine a_if_eq 70 dX11_isTrue_63 (by decide) (fun c36 => ?_) (fun c36 => ?_)
      · replace h := ite_t c36 h
        refine a_iconst (v := 0) dX11_isTrue_70 (by decide) ?_
        exact a_zret dX11_isTrue_71 rfl rfl (hR _ _ h)
      · replace h := ite_f c36 h
        refine a_iconst (v := 1) dX11_isTrue_66 (by decide) ?_
        refine a_goto 71 dX11_isTrue_67 (by decide) ?_
        exact a_zret dX11_isTrue_71 rfl rfl (hR _ _ h)
  replace h := ite_f c10 h
  by_cases c37 : (M.2.2.1 r3 (x1.toNatClampNeg)) = 10
  · replace h := ite_t c37 h
    refine a_tableIn (off := 66) 72 dX11_isTrue_6 (by rw [c37]; decide) (by rw [c37]; decide) (by rw [c37]; rfl) (by decide) ?_
    refine a_aload_n dX11_isTrue_72 rfl rfl ?_
    refine a_aload_n dX11_isTrue_73 rfl rfl ?_
    obtain ⟨r38, e39, h⟩ := bnd_t h
    refine a_get (v := .ref r38) dX11_isTrue_74 fl_11_17 ga1 gs2 (gvR e39 rfl) ?_
    refine a_iload_n dX11_isTrue_77 rfl rfl ?_
    obtain ⟨⟨ga40, gn41, gs42, gi43⟩, h⟩ := gd_t h
    refine a_iaload dX11_isTrue_78 ga40 gs42 gi43 ?_
    refine a_iload_n dX11_isTrue_79 rfl rfl ?_
    obtain ⟨v44, M45, e46, h⟩ := bnd2_t h
    obtain ⟨n47, en48, e46⟩ := hc_X11_isTrue e46
    refine e_callV (As := [.int (M.2.2.1 r38 (x1.toNatClampNeg)), .int x2]) (st := []) (a := a0) (ci := 11) false dX11_isTrue_80 mw_X11_isTrue (Or.inl ⟨rfl, ml_X11_456⟩) im_X11_isTrue se_X11_isTrue (by decide) ga1 gs2 rfl (Nat.le_of_ble_eq_true rfl) en48 e46 ?_
    refine a_if_eq 104 dX11_isTrue_83 (by decide) (fun c49 => ?_) (fun c49 => ?_)
    · replace h := ite_t c49 h
      refine a_iconst (v := 0) dX11_isTrue_104 (by decide) ?_
      exact a_zret dX11_isTrue_105 rfl rfl (hR _ _ h)
    · replace h := ite_f c49 h
      refine a_aload_n dX11_isTrue_86 rfl rfl ?_
      refine a_aload_n dX11_isTrue_87 rfl rfl ?_
      obtain ⟨⟨ga50, gs51⟩, h⟩ := gd_t h
      obtain ⟨r52, e53, h⟩ := bnd_t h
      refine a_get (v := .ref r52) dX11_isTrue_88 fl_11_20 ga50 gs51 (gvR e53 rfl) ?_
      refine a_iload_n dX11_isTrue_91 rfl rfl ?_
      obtain ⟨⟨ga54, gn55, gs56, gi57⟩, h⟩ := gd_t h
      refine a_iaload dX11_isTrue_92 ga54 gs56 gi57 ?_
      refine a_iload_n dX11_isTrue_93 rfl rfl ?_
      obtain ⟨v58, M59, e60, h⟩ := bnd2_t h
      obtain ⟨n61, en62, e60⟩ := hc_X11_isTrue e60
      refine e_callV (As := [.int (M45.2.2.1 r52 (x1.toNatClampNeg)), .int x2]) (st := []) (a := a0) (ci := 11) false dX11_isTrue_94 mw_X11_isTrue (Or.inl ⟨rfl, ml_X11_456⟩) im_X11_isTrue se_X11_isTrue (by decide) ga50 gs51 rfl (Nat.le_of_ble_eq_true rfl) en62 e60 ?_
      refine a_if_eq 104 dX11_isTrue_97 (by decide) (fun c63 => ?_) (fun c63 => ?_)
      · replace h := ite_t c63 h
        refine a_iconst (v := 0) dX11_isTrue_104 (by decide) ?_
        exact a_zret dX11_isTrue_105 rfl rfl (hR _ _ h)
      · replace h := ite_f c63 h
        refine a_iconst (v := 1) dX11_isTrue_100 (by decide) ?_
        refine a_goto 105 dX11_isTrue_101 (by decide) ?_
        exact a_zret dX11_isTrue_105 rfl rfl (hR _ _ h)
  replace h := ite_f c37 h
  by_cases c64 : (M.2.2.1 r3 (x1.toNatClampNeg)) = 11
  · replace h := ite_t c64 h
    refine a_tableIn (off := 100) 106 dX11_isTrue_6 (by rw [c64]; decide) (by rw [c64]; decide) (by rw [c64]; rfl) (by decide) ?_
    refine a_aload_n dX11_isTrue_106 rfl rfl ?_
    refine a_aload_n dX11_isTrue_107 rfl rfl ?_
    obtain ⟨r65, e66, h⟩ := bnd_t h
    refine a_get (v := .ref r65) dX11_isTrue_108 fl_11_17 ga1 gs2 (gvR e66 rfl) ?_
    refine a_iload_n dX11_isTrue_111 rfl rfl ?_
    obtain ⟨⟨ga67, gn68, gs69, gi70⟩, h⟩ := gd_t h
    refine a_iaload dX11_isTrue_112 ga67 gs69 gi70 ?_
    refine a_iload_n dX11_isTrue_113 rfl rfl ?_
    obtain ⟨v71, M72, e73, h⟩ := bnd2_t h
    obtain ⟨n74, en75, e73⟩ := hc_X11_isTrue e73
    refine e_callV (As := [.int (M.2.2.1 r65 (x1.toNatClampNeg)), .int x2]) (st := []) (a := a0) (ci := 11) false dX11_isTrue_114 mw_X11_isTrue (Or.inl ⟨rfl, ml_X11_456⟩) im_X11_isTrue se_X11_isTrue (by decide) ga1 gs2 rfl (Nat.le_of_ble_eq_true rfl) en75 e73 ?_
    refine a_if_ne 134 dX11_isTrue_117 (by decide) (fun c76 => ?_) (fun c76 => ?_)
    · replace h := ite_f c76 h
      refine a_iconst (v := 1) dX11_isTrue_134 (by decide) ?_
      refine a_goto 139 dX11_isTrue_135 (by decide) ?_
      exact a_zret dX11_isTrue_139 rfl rfl (hR _ _ h)
    · replace h := ite_t c76 h
      refine a_aload_n dX11_isTrue_120 rfl rfl ?_
      refine a_aload_n dX11_isTrue_121 rfl rfl ?_
      obtain ⟨⟨ga77, gs78⟩, h⟩ := gd_t h
      obtain ⟨r79, e80, h⟩ := bnd_t h
      refine a_get (v := .ref r79) dX11_isTrue_122 fl_11_20 ga77 gs78 (gvR e80 rfl) ?_
      refine a_iload_n dX11_isTrue_125 rfl rfl ?_
      obtain ⟨⟨ga81, gn82, gs83, gi84⟩, h⟩ := gd_t h
      refine a_iaload dX11_isTrue_126 ga81 gs83 gi84 ?_
      refine a_iload_n dX11_isTrue_127 rfl rfl ?_
      obtain ⟨v85, M86, e87, h⟩ := bnd2_t h
      obtain ⟨n88, en89, e87⟩ := hc_X11_isTrue e87
      refine e_callV (As := [.int (M72.2.2.1 r79 (x1.toNatClampNeg)), .int x2]) (st := []) (a := a0) (ci := 11) false dX11_isTrue_128 mw_X11_isTrue (Or.inl ⟨rfl, ml_X11_456⟩) im_X11_isTrue se_X11_isTrue (by decide) ga77 gs78 rfl (Nat.le_of_ble_eq_true rfl) en89 e87 ?_
      refine a_if_eq 138 dX11_isTrue_131 (by decide) (fun c90 => ?_) (fun c90 => ?_)
      · replace h := ite_t c90 h
        refine a_iconst (v := 0) dX11_isTrue_138 (by decide) ?_
        exact a_zret dX11_isTrue_139 rfl rfl (hR _ _ h)
      · replace h := ite_f c90 h
        refine a_iconst (v := 1) dX11_isTrue_134 (by decide) ?_
        refine a_goto 139 dX11_isTrue_135 (by decide) ?_
        exact a_zret dX11_isTrue_139 rfl rfl (hR _ _ h)
  replace h := ite_f c64 h
  refine a_tableOut 140 dX11_isTrue_6 (by have q0 := ne_toInt (z := 8) c9 rfl; have q1 := ne_toInt (z := 9) c10 rfl; have q2 := ne_toInt (z := 10) c37 rfl; have q3 := ne_toInt (z := 11) c64 rfl; omega) (by decide) ?_
  refine a_iload_n dX11_isTrue_140 rfl rfl ?_
  refine a_aload_n dX11_isTrue_141 rfl rfl ?_
  refine a_get (v := .ref r3) dX11_isTrue_142 fl_11_13 ga1 gs2 (gvR e4 rfl) ?_
  refine a_iload_n dX11_isTrue_145 rfl rfl ?_
  refine a_iaload dX11_isTrue_146 ga5 gs7 gi8 ?_
  refine a_ishr dX11_isTrue_147 ?_
  refine a_iconst (v := 1) dX11_isTrue_148 (by decide) ?_
  refine a_iand dX11_isTrue_149 ?_
  refine a_iconst (v := 1) dX11_isTrue_150 (by decide) ?_
  refine a_icmp_ne 158 dX11_isTrue_151 (by decide) (fun c91 => ?_) (fun c91 => ?_)
  · replace h := ite_f c91 h
    refine a_iconst (v := 0) dX11_isTrue_158 (by decide) ?_
    exact a_zret dX11_isTrue_159 rfl rfl (hR _ _ h)
  · replace h := ite_t c91 h
    refine a_iconst (v := 1) dX11_isTrue_154 (by decide) ?_
    refine a_goto 159 dX11_isTrue_155 (by decide) ?_
    exact a_zret dX11_isTrue_159 rfl rfl (hR _ _ h)
noncomputable def b_X11_isTrue (cl : Nat → List Value → Mem → Option (Int32 × Mem)) (n : Nat) (a0 : Nat) (x1 : Int32) (x2 : Int32) (M : Mem) : Option (Int32 × Mem) := T_X11_isTrue_0 (fun v M => some (v, M)) none cl n a0 x1 x2 M
set_option maxHeartbeats 4000000 in
set_option maxRecDepth 100000 in
theorem sb_X11_isTrue {X : Nat × (Nat → Int32)} {al : Bool} {n : Nat} {cl : Nat → List Value → Mem → Option (Int32 × Mem)} (hc_X11_isTrue : ∀ {a0 : Nat} {x1 : Int32} {x2 : Int32} {M : Mem} {v : Int32} {M1 : Mem}, cl 0 [.ref a0, .int x1, .int x2] M = some (v, M1) → ∃ k, n = k + 1 ∧ AE yX11_isTrue cX11_isTrue 3 (some .boolean) al k X [.ref a0, .int x1, .int x2] M (some (.int v)) M1) {a0 : Nat} {x1 : Int32} {x2 : Int32} {M : Mem} {v : Int32} {M1 : Mem} (h : b_X11_isTrue cl n a0 x1 x2 M = some (v, M1)) : AE yX11_isTrue cX11_isTrue 3 (some .boolean) al n X [.ref a0, .int x1, .int x2] M (some (.int v)) M1 := by
  refine AM.of false (by decide +kernel) (by intro h; cases h) (Nat.le_of_ble_eq_true rfl) ?_
  have h2 : T_X11_isTrue_0 (fun v2 M2 => some (v2, M2) = some (v, M1)) (none = some (v, M1)) cl n a0 x1 x2 M := (n_X11_isTrue_0 (fun o => o = some (v, M1)) (fun v M => some (v, M)) none cl n a0 x1 x2 M).mp h
  have h3 : ((none : Option (Int32 × Mem)) = some (v, M1)) = False := eq_false (by intro q; cases q)
  rw [h3] at h2
  exact w_X11_isTrue_0 (fun v2 M2 h => by cases h; exact ⟨rfl, rfl⟩) hc_X11_isTrue h2

noncomputable def F_X11_isTrue (cl : Nat → List Value → Mem → Option (Int32 × Mem)) (n k : Nat) (l : List Value) (M : Mem) : Option (Int32 × Mem) := if k = 0 then vR l none (fun a0 t => vI t none (fun x1 t => vI t none (fun x2 t => vE t none (b_X11_isTrue cl n a0 x1 x2 M)))) else none
noncomputable def r_X11_isTrue : Nat → Nat → List Value → Mem → Option (Int32 × Mem)
  | 0 => F_X11_isTrue (fun _ _ _ => none) 0
  | n + 1 => F_X11_isTrue (r_X11_isTrue n) (n + 1)
noncomputable abbrev f_X11_isTrue (n : Nat) (a0 : Nat) (x1 : Int32) (x2 : Int32) (M : Mem) : Option (Int32 × Mem) := r_X11_isTrue n 0 [.ref a0, .int x1, .int x2] M
set_option maxHeartbeats 4000000 in
set_option maxRecDepth 100000 in
theorem sr_X11_isTrue {X : Nat × (Nat → Int32)} {al : Bool} : ∀ n : Nat, (∀ {a0 : Nat} {x1 : Int32} {x2 : Int32} {M : Mem} {v : Int32} {M1 : Mem}, f_X11_isTrue n a0 x1 x2 M = some (v, M1) → AE yX11_isTrue cX11_isTrue 3 (some .boolean) al n X [.ref a0, .int x1, .int x2] M (some (.int v)) M1) := by
  intro n
  induction n with
  | zero => exact (fun h => sb_X11_isTrue (cl := fun _ _ _ => none) (fun h => by cases h) h)
  | succ n ih => exact (fun h => sb_X11_isTrue (cl := r_X11_isTrue n) (fun h => ⟨n, rfl, ih h⟩) h)
theorem s_X11_isTrue {X : Nat × (Nat → Int32)} {al : Bool} {n : Nat} {a0 : Nat} {x1 : Int32} {x2 : Int32} {M : Mem} {v : Int32} {M1 : Mem} (h : f_X11_isTrue n a0 x1 x2 M = some (v, M1)) : AE yX11_isTrue cX11_isTrue 3 (some .boolean) al n X [.ref a0, .int x1, .int x2] M (some (.int v)) M1 := (sr_X11_isTrue n) h
def ix_X11_againstNow (c : Nat) : List Nat := if c = 0 then [0] else if c = 2 then [0, 1] else if c = 29 then [0, 1, 2, 3] else []
def PW_X11_againstNow (X : Nat × (Nat → Int32)) (al : Bool) (n : Nat) (Q : Option Value → Mem → Prop) (c : Nat) (l : List Value) (M : Mem) : Prop := AW X (RX11, cX11_againstNow, 4, (some .int), false, al, n) 0 0 c (List.zip (ix_X11_againstNow c) l) (l.drop (ix_X11_againstNow c).length) M Q
set_option maxHeartbeats 4000000 in
set_option maxRecDepth 100000 in
noncomputable def T_X11_againstNow_0.{u} {α : Sort u} (J : Nat → List Value → Mem → α) (R : Int32 → Mem → α) (N : α) (n : Nat) (a0 : Nat) (M : Mem) : α := J 2 [.ref a0, .int 0] M
set_option maxHeartbeats 4000000 in
set_option maxRecDepth 100000 in
theorem n_X11_againstNow_0.{u, v} {α : Sort u} {β : Sort v} (h : α → β) (J : Nat → List Value → Mem → α) (R : Int32 → Mem → α) (N : α) (n : Nat) (a0 : Nat) (M : Mem) : h (T_X11_againstNow_0 J R N n a0 M) = T_X11_againstNow_0 (fun c l M => h (J c l M)) (fun v M => h (R v M)) (h N) n a0 M := by
  simp only [T_X11_againstNow_0, nat_ite h, nat_gd h, nat_bnd h, nat_bnd2 h]
set_option maxHeartbeats 4000000 in
set_option maxRecDepth 100000 in
theorem w_X11_againstNow_0 {X : Nat × (Nat → Int32)} {al : Bool} {n : Nat} {Q : Option Value → Mem → Prop} {J : Nat → List Value → Mem → Prop} (hJ : ∀ c l M, J c l M → PW_X11_againstNow X al n Q c l M) {R : Int32 → Mem → Prop} (hR : ∀ v M, R v M → Q (some (.int v)) M) {a0 : Nat} {M : Mem} (h : T_X11_againstNow_0 J R False n a0 M) : AW X (RX11, cX11_againstNow, 4, (some .int), false, al, n) 0 0 0 [(0, .ref a0)] [] M Q := by
  unfold T_X11_againstNow_0 at h
  refine a_iconst (v := 0) dX11_againstNow_0 (by decide) ?_
  refine a_istore_n dX11_againstNow_1 rfl (Nat.le_of_ble_eq_true rfl) (lv2 := [(1, .int 0), (0, .ref a0)]) rfl ?_
  exact a_lv (lv2 := [(0, .ref a0), (1, .int 0)]) (fa_cons rfl (fa_cons rfl fa_nil)) (hJ _ _ _ h)
set_option maxHeartbeats 4000000 in
set_option maxRecDepth 100000 in
noncomputable def T_X11_againstNow_2.{u} {α : Sort u} (J : Nat → List Value → Mem → α) (R : Int32 → Mem → α) (N : α) (n : Nat) (a0 : Nat) (x1 : Int32) (M : Mem) : α := if 256 ≤ x1 then R (-1) M else gd (fO M a0 11) N (bnd2 (cal n (fun n => f_X11_isTrue n a0 (M.2.2.1 a0 16) x1 M)) N (fun v4 M5 => if v4 = 0 then J 29 [.ref a0, .int x1, .int 1, .int 0] M5 else J 29 [.ref a0, .int x1, .int 0, .int 0] M5))
set_option maxHeartbeats 4000000 in
set_option maxRecDepth 100000 in
theorem n_X11_againstNow_2.{u, v} {α : Sort u} {β : Sort v} (h : α → β) (J : Nat → List Value → Mem → α) (R : Int32 → Mem → α) (N : α) (n : Nat) (a0 : Nat) (x1 : Int32) (M : Mem) : h (T_X11_againstNow_2 J R N n a0 x1 M) = T_X11_againstNow_2 (fun c l M => h (J c l M)) (fun v M => h (R v M)) (h N) n a0 x1 M := by
  simp only [T_X11_againstNow_2, nat_ite h, nat_gd h, nat_bnd h, nat_bnd2 h]
set_option maxHeartbeats 4000000 in
set_option maxRecDepth 100000 in
theorem w_X11_againstNow_2 {X : Nat × (Nat → Int32)} {al : Bool} {n : Nat} {Q : Option Value → Mem → Prop} {J : Nat → List Value → Mem → Prop} (hJ : ∀ c l M, J c l M → PW_X11_againstNow X al n Q c l M) {R : Int32 → Mem → Prop} (hR : ∀ v M, R v M → Q (some (.int v)) M) {a0 : Nat} {x1 : Int32} {M : Mem} (h : T_X11_againstNow_2 J R False n a0 x1 M) : AW X (RX11, cX11_againstNow, 4, (some .int), false, al, n) 0 0 2 [(0, .ref a0), (1, .int x1)] [] M Q := by
  unfold T_X11_againstNow_2 at h
  refine a_iload_n dX11_againstNow_2 rfl rfl ?_
  refine a_sipush (v := 256) dX11_againstNow_3 (by decide) ?_
  refine a_icmp_ge 71 dX11_againstNow_6 (by decide) (fun c1 => ?_) (fun c1 => ?_)
  · replace h := ite_t c1 h
    refine a_iconst (v := -1) dX11_againstNow_71 (by decide) ?_
    exact a_iret dX11_againstNow_72 rfl (hR _ _ h)
  · replace h := ite_f c1 h
    refine a_aload_n dX11_againstNow_9 rfl rfl ?_
    refine a_aload_n dX11_againstNow_10 rfl rfl ?_
    obtain ⟨⟨ga2, gs3⟩, h⟩ := gd_t h
    refine a_get (v := .int (M.2.2.1 a0 16)) dX11_againstNow_11 fl_11_134 ga2 gs3 rfl ?_
    refine a_iload_n dX11_againstNow_14 rfl rfl ?_
    obtain ⟨v4, M5, e6, h⟩ := bnd2_t h
    obtain ⟨n7, en8, e6⟩ := cal_t e6
    refine e_callV (As := [.int (M.2.2.1 a0 16), .int x1]) (st := []) (a := a0) (ci := 11) false dX11_againstNow_15 mw_X11_isTrue (Or.inl ⟨rfl, ml_X11_456⟩) im_X11_isTrue se_X11_isTrue (by decide) ga2 gs3 rfl (Nat.le_of_ble_eq_true rfl) en8 (s_X11_isTrue e6) ?_
    refine a_if_ne 25 dX11_againstNow_18 (by decide) (fun c9 => ?_) (fun c9 => ?_)
    · replace h := ite_f c9 h
      refine a_iconst (v := 0) dX11_againstNow_25 (by decide) ?_
      refine a_istore_n dX11_againstNow_26 rfl (Nat.le_of_ble_eq_true rfl) (lv2 := [(2, .int 0), (0, .ref a0), (1, .int x1)]) rfl ?_
      refine a_iconst (v := 0) dX11_againstNow_27 (by decide) ?_
      refine a_istore_n dX11_againstNow_28 rfl (Nat.le_of_ble_eq_true rfl) (lv2 := [(3, .int 0), (2, .int 0), (0, .ref a0), (1, .int x1)]) rfl ?_
      exact a_lv (lv2 := [(0, .ref a0), (1, .int x1), (2, .int 0), (3, .int 0)]) (fa_cons rfl (fa_cons rfl (fa_cons rfl (fa_cons rfl fa_nil)))) (hJ _ _ _ h)
    · replace h := ite_t c9 h
      refine a_iconst (v := 1) dX11_againstNow_21 (by decide) ?_
      refine a_goto 26 dX11_againstNow_22 (by decide) ?_
      refine a_istore_n dX11_againstNow_26 rfl (Nat.le_of_ble_eq_true rfl) (lv2 := [(2, .int 1), (0, .ref a0), (1, .int x1)]) rfl ?_
      refine a_iconst (v := 0) dX11_againstNow_27 (by decide) ?_
      refine a_istore_n dX11_againstNow_28 rfl (Nat.le_of_ble_eq_true rfl) (lv2 := [(3, .int 0), (2, .int 1), (0, .ref a0), (1, .int x1)]) rfl ?_
      exact a_lv (lv2 := [(0, .ref a0), (1, .int x1), (2, .int 1), (3, .int 0)]) (fa_cons rfl (fa_cons rfl (fa_cons rfl (fa_cons rfl fa_nil)))) (hJ _ _ _ h)
set_option maxHeartbeats 4000000 in
set_option maxRecDepth 100000 in
noncomputable def T_X11_againstNow_29.{u} {α : Sort u} (J : Nat → List Value → Mem → α) (R : Int32 → Mem → α) (N : α) (n : Nat) (a0 : Nat) (x1 : Int32) (x2 : Int32) (x3 : Int32) (M : Mem) : α := gd (fO M a0 11) N (if (M.2.2.1 a0 15) ≤ x3 then if x2 = 0 then J 2 [.ref a0, .int (x1 + 1)] M else R x1 M else if x2 = 0 then if x2 = 0 then J 2 [.ref a0, .int (x1 + 1)] M else R x1 M else bnd (M.2.2.2.2 a0 11) N (fun r7 => gd (fA M r7 1 x3) N (bnd2 (cal n (fun n => f_X11_isTrue n a0 (M.2.2.1 r7 (x3.toNatClampNeg)) x1 M)) N (fun v13 M14 => J 29 [.ref a0, .int x1, .int v13, .int (x3 + 1)] M14))))
set_option maxHeartbeats 4000000 in
set_option maxRecDepth 100000 in
theorem n_X11_againstNow_29.{u, v} {α : Sort u} {β : Sort v} (h : α → β) (J : Nat → List Value → Mem → α) (R : Int32 → Mem → α) (N : α) (n : Nat) (a0 : Nat) (x1 : Int32) (x2 : Int32) (x3 : Int32) (M : Mem) : h (T_X11_againstNow_29 J R N n a0 x1 x2 x3 M) = T_X11_againstNow_29 (fun c l M => h (J c l M)) (fun v M => h (R v M)) (h N) n a0 x1 x2 x3 M := by
  simp only [T_X11_againstNow_29, nat_ite h, nat_gd h, nat_bnd h, nat_bnd2 h]
set_option maxHeartbeats 4000000 in
set_option maxRecDepth 100000 in
theorem w_X11_againstNow_29 {X : Nat × (Nat → Int32)} {al : Bool} {n : Nat} {Q : Option Value → Mem → Prop} {J : Nat → List Value → Mem → Prop} (hJ : ∀ c l M, J c l M → PW_X11_againstNow X al n Q c l M) {R : Int32 → Mem → Prop} (hR : ∀ v M, R v M → Q (some (.int v)) M) {a0 : Nat} {x1 : Int32} {x2 : Int32} {x3 : Int32} {M : Mem} (h : T_X11_againstNow_29 J R False n a0 x1 x2 x3 M) : AW X (RX11, cX11_againstNow, 4, (some .int), false, al, n) 0 0 29 [(0, .ref a0), (1, .int x1), (2, .int x2), (3, .int x3)] [] M Q := by
  unfold T_X11_againstNow_29 at h
  refine a_iload_n dX11_againstNow_29 rfl rfl ?_
  refine a_aload_n dX11_againstNow_30 rfl rfl ?_
  obtain ⟨⟨ga1, gs2⟩, h⟩ := gd_t h
  refine a_get (v := .int (M.2.2.1 a0 15)) dX11_againstNow_31 fl_11_144 ga1 gs2 rfl ?_
  refine a_icmp_ge 59 dX11_againstNow_34 (by decide) (fun c3 => ?_) (fun c3 => ?_)
  · replace h := ite_t c3 h
    refine a_iload_n dX11_againstNow_59 rfl rfl ?_
    refine a_if_eq 65 dX11_againstNow_60 (by decide) (fun c4 => ?_) (fun c4 => ?_)
    · replace h := ite_t c4 h
      refine a_iinc (v := (x1 + 1)) dX11_againstNow_65 rfl (by first | rfl | decide) (Nat.le_of_ble_eq_true rfl) (lv2 := [(1, .int (x1 + 1)), (0, .ref a0), (2, .int x2), (3, .int x3)]) rfl ?_
      refine a_goto 2 dX11_againstNow_68 (by decide) ?_
      exact a_lv (lv2 := [(0, .ref a0), (1, .int (x1 + 1))]) (fa_cons rfl (fa_cons rfl fa_nil)) (hJ _ _ _ h)
    · replace h := ite_f c4 h
      refine a_iload_n dX11_againstNow_63 rfl rfl ?_
      exact a_iret dX11_againstNow_64 rfl (hR _ _ h)
  · replace h := ite_f c3 h
    refine a_iload_n dX11_againstNow_37 rfl rfl ?_
    refine a_if_eq 59 dX11_againstNow_38 (by decide) (fun c5 => ?_) (fun c5 => ?_)
    · replace h := ite_t c5 h
      refine a_iload_n dX11_againstNow_59 rfl rfl ?_
      refine a_if_eq 65 dX11_againstNow_60 (by decide) (fun c6 => ?_) (fun c6 => ?_)
      · replace h := ite_t c6 h
        refine a_iinc (v := (x1 + 1)) dX11_againstNow_65 rfl (by first | rfl | decide) (Nat.le_of_ble_eq_true rfl) (lv2 := [(1, .int (x1 + 1)), (0, .ref a0), (2, .int x2), (3, .int x3)]) rfl ?_
        refine a_goto 2 dX11_againstNow_68 (by decide) ?_
        exact a_lv (lv2 := [(0, .ref a0), (1, .int (x1 + 1))]) (fa_cons rfl (fa_cons rfl fa_nil)) (hJ _ _ _ h)
      · replace h := ite_f c6 h
        refine a_iload_n dX11_againstNow_63 rfl rfl ?_
        exact a_iret dX11_againstNow_64 rfl (hR _ _ h)
    · replace h := ite_f c5 h
      refine a_aload_n dX11_againstNow_41 rfl rfl ?_
      refine a_aload_n dX11_againstNow_42 rfl rfl ?_
      obtain ⟨r7, e8, h⟩ := bnd_t h
      refine a_get (v := .ref r7) dX11_againstNow_43 fl_11_38 ga1 gs2 (gvR e8 rfl) ?_
      refine a_iload_n dX11_againstNow_46 rfl rfl ?_
      obtain ⟨⟨ga9, gn10, gs11, gi12⟩, h⟩ := gd_t h
      refine a_iaload dX11_againstNow_47 ga9 gs11 gi12 ?_
      refine a_iload_n dX11_againstNow_48 rfl rfl ?_
      obtain ⟨v13, M14, e15, h⟩ := bnd2_t h
      obtain ⟨n16, en17, e15⟩ := cal_t e15
      refine e_callV (As := [.int (M.2.2.1 r7 (x3.toNatClampNeg)), .int x1]) (st := []) (a := a0) (ci := 11) false dX11_againstNow_49 mw_X11_isTrue (Or.inl ⟨rfl, ml_X11_456⟩) im_X11_isTrue se_X11_isTrue (by decide) ga1 gs2 rfl (Nat.le_of_ble_eq_true rfl) en17 (s_X11_isTrue e15) ?_
      refine a_istore_n dX11_againstNow_52 rfl (Nat.le_of_ble_eq_true rfl) (lv2 := [(2, .int v13), (0, .ref a0), (1, .int x1), (3, .int x3)]) rfl ?_
      refine a_iinc (v := (x3 + 1)) dX11_againstNow_53 rfl (by first | rfl | decide) (Nat.le_of_ble_eq_true rfl) (lv2 := [(3, .int (x3 + 1)), (2, .int v13), (0, .ref a0), (1, .int x1)]) rfl ?_
      refine a_goto 29 dX11_againstNow_56 (by decide) ?_
      exact a_lv (lv2 := [(0, .ref a0), (1, .int x1), (2, .int v13), (3, .int (x3 + 1))]) (fa_cons rfl (fa_cons rfl (fa_cons rfl (fa_cons rfl fa_nil)))) (hJ _ _ _ h)
set_option maxHeartbeats 4000000 in
set_option maxRecDepth 100000 in
noncomputable def st_X11_againstNow (n : Nat) (s : Sg) : Option (Sg ⊕ (Int32 × Mem)) := if s.1 = 0 then vR s.2.1 none (fun a0 t => vE t none (T_X11_againstNow_0 (fun c l M => some (.inl (c, l, M))) (fun v M => some (.inr (v, M))) none n a0 s.2.2)) else if s.1 = 2 then vR s.2.1 none (fun a0 t => vI t none (fun x1 t => vE t none (T_X11_againstNow_2 (fun c l M => some (.inl (c, l, M))) (fun v M => some (.inr (v, M))) none n a0 x1 s.2.2))) else if s.1 = 29 then vR s.2.1 none (fun a0 t => vI t none (fun x1 t => vI t none (fun x2 t => vI t none (fun x3 t => vE t none (T_X11_againstNow_29 (fun c l M => some (.inl (c, l, M))) (fun v M => some (.inr (v, M))) none n a0 x1 x2 x3 s.2.2))))) else none
noncomputable abbrev g_X11_againstNow_0 (n : Nat) (a0 : Nat) (M : Mem) : Option (Int32 × Mem) := lp (st_X11_againstNow n) (0, [.ref a0], M)
set_option maxHeartbeats 4000000 in
set_option maxRecDepth 100000 in
theorem ge_X11_againstNow_0 (n : Nat) (a0 : Nat) (M : Mem) : g_X11_againstNow_0 n a0 M = T_X11_againstNow_0 (fun c l M => lp (st_X11_againstNow n) (c, l, M)) (fun v M => some (v, M)) none n a0 M := (lp_eq _ _).trans (n_X11_againstNow_0 (lpK (st_X11_againstNow n)) (fun c l M => some (.inl (c, l, M))) (fun v M => some (.inr (v, M))) none n a0 M)
noncomputable abbrev g_X11_againstNow_2 (n : Nat) (a0 : Nat) (x1 : Int32) (M : Mem) : Option (Int32 × Mem) := lp (st_X11_againstNow n) (2, [.ref a0, .int x1], M)
set_option maxHeartbeats 4000000 in
set_option maxRecDepth 100000 in
theorem ge_X11_againstNow_2 (n : Nat) (a0 : Nat) (x1 : Int32) (M : Mem) : g_X11_againstNow_2 n a0 x1 M = T_X11_againstNow_2 (fun c l M => lp (st_X11_againstNow n) (c, l, M)) (fun v M => some (v, M)) none n a0 x1 M := (lp_eq _ _).trans (n_X11_againstNow_2 (lpK (st_X11_againstNow n)) (fun c l M => some (.inl (c, l, M))) (fun v M => some (.inr (v, M))) none n a0 x1 M)
noncomputable abbrev g_X11_againstNow_29 (n : Nat) (a0 : Nat) (x1 : Int32) (x2 : Int32) (x3 : Int32) (M : Mem) : Option (Int32 × Mem) := lp (st_X11_againstNow n) (29, [.ref a0, .int x1, .int x2, .int x3], M)
set_option maxHeartbeats 4000000 in
set_option maxRecDepth 100000 in
theorem ge_X11_againstNow_29 (n : Nat) (a0 : Nat) (x1 : Int32) (x2 : Int32) (x3 : Int32) (M : Mem) : g_X11_againstNow_29 n a0 x1 x2 x3 M = T_X11_againstNow_29 (fun c l M => lp (st_X11_againstNow n) (c, l, M)) (fun v M => some (v, M)) none n a0 x1 x2 x3 M := (lp_eq _ _).trans (n_X11_againstNow_29 (lpK (st_X11_againstNow n)) (fun c l M => some (.inl (c, l, M))) (fun v M => some (.inr (v, M))) none n a0 x1 x2 x3 M)
noncomputable def b_X11_againstNow (n : Nat) (a0 : Nat) (M : Mem) : Option (Int32 × Mem) := g_X11_againstNow_0 n a0 M
set_option maxHeartbeats 4000000 in
set_option maxRecDepth 100000 in
theorem sb_X11_againstNow {X : Nat × (Nat → Int32)} {al : Bool} {n : Nat} {a0 : Nat} {M : Mem} {v : Int32} {M1 : Mem} (h : b_X11_againstNow n a0 M = some (v, M1)) : AE yX11_againstNow cX11_againstNow 4 (some .int) al n X [.ref a0] M (some (.int v)) M1 := by
  refine AM.of false (by decide +kernel) (by intro h; cases h) (Nat.le_of_ble_eq_true rfl) ?_
  refine lp_snd (P := fun s r => PW_X11_againstNow X al n (fun v M2 => v = (some (.int r.1)) ∧ M2 = r.2) s.1 s.2.1 s.2.2) ?_ h
  clear h
  rintro ⟨c, l, M⟩ r h
  unfold st_X11_againstNow at h
  rcases ite_p h with ⟨e, h⟩ | ⟨e, h⟩
  · replace e : c = 0 := e
    subst e
    obtain ⟨a0, tt0, e, h⟩ := vR_p id h
    replace e : l = _ := e
    subst e
    obtain ⟨e, h⟩ := vE_p id h
    replace e : tt0 = [] := e
    subst e
    exact w_X11_againstNow_0 (J := fun c l M => PW_X11_againstNow X al n (fun v M2 => v = (some (.int r.1)) ∧ M2 = r.2) c l M) (R := fun v M => (v, M) = r) (fun _ _ _ h => h) (fun v M h => by cases h; exact ⟨rfl, rfl⟩) ((n_X11_againstNow_0 (lpP (fun (s : Sg) (r : Int32 × Mem) => PW_X11_againstNow X al n (fun v M2 => v = (some (.int r.1)) ∧ M2 = r.2) s.1 s.2.1 s.2.2) r) (fun c l M => some (.inl (c, l, M))) (fun v M => some (.inr (v, M))) none n a0 M).mp h)
  rcases ite_p h with ⟨e, h⟩ | ⟨e, h⟩
  · replace e : c = 2 := e
    subst e
    obtain ⟨a0, tt0, e, h⟩ := vR_p id h
    replace e : l = _ := e
    subst e
    obtain ⟨x1, tt1, e, h⟩ := vI_p id h
    replace e : tt0 = _ := e
    subst e
    obtain ⟨e, h⟩ := vE_p id h
    replace e : tt1 = [] := e
    subst e
    exact w_X11_againstNow_2 (J := fun c l M => PW_X11_againstNow X al n (fun v M2 => v = (some (.int r.1)) ∧ M2 = r.2) c l M) (R := fun v M => (v, M) = r) (fun _ _ _ h => h) (fun v M h => by cases h; exact ⟨rfl, rfl⟩) ((n_X11_againstNow_2 (lpP (fun (s : Sg) (r : Int32 × Mem) => PW_X11_againstNow X al n (fun v M2 => v = (some (.int r.1)) ∧ M2 = r.2) s.1 s.2.1 s.2.2) r) (fun c l M => some (.inl (c, l, M))) (fun v M => some (.inr (v, M))) none n a0 x1 M).mp h)
  rcases ite_p h with ⟨e, h⟩ | ⟨e, h⟩
  · replace e : c = 29 := e
    subst e
    obtain ⟨a0, tt0, e, h⟩ := vR_p id h
    replace e : l = _ := e
    subst e
    obtain ⟨x1, tt1, e, h⟩ := vI_p id h
    replace e : tt0 = _ := e
    subst e
    obtain ⟨x2, tt2, e, h⟩ := vI_p id h
    replace e : tt1 = _ := e
    subst e
    obtain ⟨x3, tt3, e, h⟩ := vI_p id h
    replace e : tt2 = _ := e
    subst e
    obtain ⟨e, h⟩ := vE_p id h
    replace e : tt3 = [] := e
    subst e
    exact w_X11_againstNow_29 (J := fun c l M => PW_X11_againstNow X al n (fun v M2 => v = (some (.int r.1)) ∧ M2 = r.2) c l M) (R := fun v M => (v, M) = r) (fun _ _ _ h => h) (fun v M h => by cases h; exact ⟨rfl, rfl⟩) ((n_X11_againstNow_29 (lpP (fun (s : Sg) (r : Int32 × Mem) => PW_X11_againstNow X al n (fun v M2 => v = (some (.int r.1)) ∧ M2 = r.2) s.1 s.2.1 s.2.2) r) (fun c l M => some (.inl (c, l, M))) (fun v M => some (.inr (v, M))) none n a0 x1 x2 x3 M).mp h)
  · exact h.elim

noncomputable abbrev f_X11_againstNow := b_X11_againstNow
theorem s_X11_againstNow {X : Nat × (Nat → Int32)} {al : Bool} {n : Nat} {a0 : Nat} {M : Mem} {v : Int32} {M1 : Mem} (h : f_X11_againstNow n a0 M = some (v, M1)) : AE yX11_againstNow cX11_againstNow 4 (some .int) al n X [.ref a0] M (some (.int v)) M1 := sb_X11_againstNow h
