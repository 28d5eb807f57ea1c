/-! METHODS AS FUNCTIONS, written by wip/gen/shallow.py -/
def ix_X0_atOnce (c : Nat) : List Nat := if c = 0 then [0, 1, 3] else if c = 27 then [0, 1, 3] else if c = 47 then [0, 1, 3, 4] else if c = 67 then [0, 3, 4, 5] else []
def PW_X0_atOnce (X : Nat × (Nat → Int32)) (al : Bool) (n : Nat) (Q : Option Value → Mem → Prop) (c : Nat) (l : List Value) (M : Mem) : Prop := AW X (RX0, cX0_atOnce, 7, (some .long), false, al, n) 0 0 c (List.zip (ix_X0_atOnce c) l) (l.drop (ix_X0_atOnce c).length) M Q
set_option maxHeartbeats 4000000 in
set_option maxRecDepth 100000 in
noncomputable def T_X0_atOnce_0.{u} {α : Sort u} (J : Nat → List Value → Mem → α) (R : Int64 → Mem → α) (N : α) (n : Nat) (a0 : Nat) (j1 : Int64) (x3 : Int32) (M : Mem) : α := if x3 < 0 then R 0 M else if x3 < 40 then if (lg_cmp ((lushr j1 x3) &&& 1) 0) = 0 then J 27 [.ref a0, .long j1, .int x3, .int 0] M else J 27 [.ref a0, .long j1, .int x3, .int 1] M else R 0 M
set_option maxHeartbeats 4000000 in
set_option maxRecDepth 100000 in
theorem n_X0_atOnce_0.{u, v} {α : Sort u} {β : Sort v} (h : α → β) (J : Nat → List Value → Mem → α) (R : Int64 → Mem → α) (N : α) (n : Nat) (a0 : Nat) (j1 : Int64) (x3 : Int32) (M : Mem) : h (T_X0_atOnce_0 J R N n a0 j1 x3 M) = T_X0_atOnce_0 (fun c l M => h (J c l M)) (fun v M => h (R v M)) (h N) n a0 j1 x3 M := by
  simp only [T_X0_atOnce_0, nat_ite h, nat_gd h, nat_bnd h, nat_bnd2 h]
set_option maxHeartbeats 4000000 in
set_option maxRecDepth 100000 in
theorem w_X0_atOnce_0 {X : Nat × (Nat → Int32)} {al : Bool} {n : Nat} {Q : Option Value → Mem → Prop} {J : Nat → List Value → Mem → Prop} (hJ : ∀ c l M, J c l M → PW_X0_atOnce X al n Q c l M) {R : Int64 → Mem → Prop} (hR : ∀ v M, R v M → Q (some (.long v)) M) {a0 : Nat} {j1 : Int64} {x3 : Int32} {M : Mem} (h : T_X0_atOnce_0 J R False n a0 j1 x3 M) : AW X (RX0, cX0_atOnce, 7, (some .long), false, al, n) 0 0 0 [(0, .ref a0), (1, .long j1), (3, .int x3)] [] M Q := by
  unfold T_X0_atOnce_0 at h
  refine a_iload_n dX0_atOnce_0 rfl rfl ?_
  refine a_if_lt 10 dX0_atOnce_1 (by decide) (fun c1 => ?_) (fun c1 => ?_)
  · replace h := ite_t c1 h
    refine a_lconst (v := 0) dX0_atOnce_10 (by decide) ?_
    exact a_lret dX0_atOnce_11 rfl (hR _ _ h)
  · replace h := ite_f c1 h
    refine a_iload_n dX0_atOnce_4 rfl rfl ?_
    refine a_bipush (v := 40) dX0_atOnce_5 (by decide) ?_
    refine a_icmp_lt 12 dX0_atOnce_7 (by decide) (fun c2 => ?_) (fun c2 => ?_)
    · replace h := ite_t c2 h
      refine a_lload_n dX0_atOnce_12 rfl rfl ?_
      refine a_iload_n dX0_atOnce_13 rfl rfl ?_
      refine a_lushr dX0_atOnce_14 ?_
      refine a_lconst (v := 1) dX0_atOnce_15 (by decide) ?_
      refine a_land dX0_atOnce_16 ?_
      refine a_lconst (v := 0) dX0_atOnce_17 (by decide) ?_
      refine a_lcmp dX0_atOnce_18 ?_
      refine a_if_eq 26 dX0_atOnce_19 (by decide) (fun c3 => ?_) (fun c3 => ?_)
      · replace h := ite_t c3 h
        refine a_iconst (v := 0) dX0_atOnce_26 (by decide) ?_
        exact a_lv (lv2 := [(0, .ref a0), (1, .long j1), (3, .int x3)]) (fa_cons rfl (fa_cons rfl (fa_cons rfl fa_nil))) (hJ _ _ _ h)
      · replace h := ite_f c3 h
        refine a_iconst (v := 1) dX0_atOnce_22 (by decide) ?_
        refine a_goto 27 dX0_atOnce_23 (by decide) ?_
        exact a_lv (lv2 := [(0, .ref a0), (1, .long j1), (3, .int x3)]) (fa_cons rfl (fa_cons rfl (fa_cons rfl fa_nil))) (hJ _ _ _ h)
    · replace h := ite_f c2 h
      refine a_lconst (v := 0) dX0_atOnce_10 (by decide) ?_
      exact a_lret dX0_atOnce_11 rfl (hR _ _ h)
set_option maxHeartbeats 4000000 in
set_option maxRecDepth 100000 in
noncomputable def T_X0_atOnce_27.{u} {α : Sort u} (J : Nat → List Value → Mem → α) (R : Int64 → Mem → α) (N : α) (n : Nat) (a0 : Nat) (j1 : Int64) (x3 : Int32) (xs0 : Int32) (M : Mem) : α := gd (fO M a0 0) N (bnd (M.2.2.2.2 a0 2) N (fun r3 => gd (fA M r3 2 x3) N (if (lg_cmp (j1 &&& (M.2.2.2.1 r3 (x3.toNatClampNeg))) 0) = 0 then J 47 [.ref a0, .long j1, .int x3, .int xs0, .int 0] M else J 47 [.ref a0, .long j1, .int x3, .int xs0, .int 1] M)))
set_option maxHeartbeats 4000000 in
set_option maxRecDepth 100000 in
theorem n_X0_atOnce_27.{u, v} {α : Sort u} {β : Sort v} (h : α → β) (J : Nat → List Value → Mem → α) (R : Int64 → Mem → α) (N : α) (n : Nat) (a0 : Nat) (j1 : Int64) (x3 : Int32) (xs0 : Int32) (M : Mem) : h (T_X0_atOnce_27 J R N n a0 j1 x3 xs0 M) = T_X0_atOnce_27 (fun c l M => h (J c l M)) (fun v M => h (R v M)) (h N) n a0 j1 x3 xs0 M := by
  simp only [T_X0_atOnce_27, nat_ite h, nat_gd h, nat_bnd h, nat_bnd2 h]
set_option maxHeartbeats 4000000 in
set_option maxRecDepth 100000 in
theorem w_X0_atOnce_27 {X : Nat × (Nat → Int32)} {al : Bool} {n : Nat} {Q : Option Value → Mem → Prop} {J : Nat → List Value → Mem → Prop} (hJ : ∀ c l M, J c l M → PW_X0_atOnce X al n Q c l M) {R : Int64 → Mem → Prop} (hR : ∀ v M, R v M → Q (some (.long v)) M) {a0 : Nat} {j1 : Int64} {x3 : Int32} {xs0 : Int32} {M : Mem} (h : T_X0_atOnce_27 J R False n a0 j1 x3 xs0 M) : AW X (RX0, cX0_atOnce, 7, (some .long), false, al, n) 0 0 27 [(0, .ref a0), (1, .long j1), (3, .int x3)] [.int xs0] M Q := by
  unfold T_X0_atOnce_27 at h
  refine a_istore dX0_atOnce_27 (Nat.le_of_ble_eq_true rfl) (lv2 := [(4, .int xs0), (0, .ref a0), (1, .long j1), (3, .int x3)]) rfl ?_
  refine a_lload_n dX0_atOnce_29 rfl rfl ?_
  refine a_aload_n dX0_atOnce_30 rfl rfl ?_
  obtain ⟨⟨ga1, gs2⟩, h⟩ := gd_t h
  obtain ⟨r3, e4, h⟩ := bnd_t h
  refine a_get (v := .ref r3) dX0_atOnce_31 fl_0_15 ga1 gs2 (gvR e4 rfl) ?_
  refine a_iload_n dX0_atOnce_34 rfl rfl ?_
  obtain ⟨⟨ga5, gn6, gs7, gi8⟩, h⟩ := gd_t h
  refine a_laload dX0_atOnce_35 ga5 gs7 gi8 ?_
  refine a_land dX0_atOnce_36 ?_
  refine a_lconst (v := 0) dX0_atOnce_37 (by decide) ?_
  refine a_lcmp dX0_atOnce_38 ?_
  refine a_if_eq 46 dX0_atOnce_39 (by decide) (fun c9 => ?_) (fun c9 => ?_)
  · replace h := ite_t c9 h
    refine a_iconst (v := 0) dX0_atOnce_46 (by decide) ?_
    exact a_lv (lv2 := [(0, .ref a0), (1, .long j1), (3, .int x3), (4, .int xs0)]) (fa_cons rfl (fa_cons rfl (fa_cons rfl (fa_cons rfl fa_nil)))) (hJ _ _ _ h)
  · replace h := ite_f c9 h
    refine a_iconst (v := 1) dX0_atOnce_42 (by decide) ?_
    refine a_goto 47 dX0_atOnce_43 (by decide) ?_
    exact a_lv (lv2 := [(0, .ref a0), (1, .long j1), (3, .int x3), (4, .int xs0)]) (fa_cons rfl (fa_cons rfl (fa_cons rfl (fa_cons rfl fa_nil)))) (hJ _ _ _ h)
set_option maxHeartbeats 4000000 in
set_option maxRecDepth 100000 in
noncomputable def T_X0_atOnce_47.{u} {α : Sort u} (J : Nat → List Value → Mem → α) (R : Int64 → Mem → α) (N : α) (n : Nat) (a0 : Nat) (j1 : Int64) (x3 : Int32) (x4 : Int32) (xs0 : Int32) (M : Mem) : α := gd (fO M a0 0) N (bnd (M.2.2.2.2 a0 3) N (fun r3 => gd (fA M r3 2 x3) N (if (lg_cmp (j1 &&& (M.2.2.2.1 r3 (x3.toNatClampNeg))) 0) = 0 then J 67 [.ref a0, .int x3, .int x4, .int xs0, .int 0] M else J 67 [.ref a0, .int x3, .int x4, .int xs0, .int 1] M)))
set_option maxHeartbeats 4000000 in
set_option maxRecDepth 100000 in
theorem n_X0_atOnce_47.{u, v} {α : Sort u} {β : Sort v} (h : α → β) (J : Nat → List Value → Mem → α) (R : Int64 → Mem → α) (N : α) (n : Nat) (a0 : Nat) (j1 : Int64) (x3 : Int32) (x4 : Int32) (xs0 : Int32) (M : Mem) : h (T_X0_atOnce_47 J R N n a0 j1 x3 x4 xs0 M) = T_X0_atOnce_47 (fun c l M => h (J c l M)) (fun v M => h (R v M)) (h N) n a0 j1 x3 x4 xs0 M := by
  simp only [T_X0_atOnce_47, nat_ite h, nat_gd h, nat_bnd h, nat_bnd2 h]
set_option maxHeartbeats 4000000 in
set_option maxRecDepth 100000 in
theorem w_X0_atOnce_47 {X : Nat × (Nat → Int32)} {al : Bool} {n : Nat} {Q : Option Value → Mem → Prop} {J : Nat → List Value → Mem → Prop} (hJ : ∀ c l M, J c l M → PW_X0_atOnce X al n Q c l M) {R : Int64 → Mem → Prop} (hR : ∀ v M, R v M → Q (some (.long v)) M) {a0 : Nat} {j1 : Int64} {x3 : Int32} {x4 : Int32} {xs0 : Int32} {M : Mem} (h : T_X0_atOnce_47 J R False n a0 j1 x3 x4 xs0 M) : AW X (RX0, cX0_atOnce, 7, (some .long), false, al, n) 0 0 47 [(0, .ref a0), (1, .long j1), (3, .int x3), (4, .int x4)] [.int xs0] M Q := by
  unfold T_X0_atOnce_47 at h
  refine a_istore dX0_atOnce_47 (Nat.le_of_ble_eq_true rfl) (lv2 := [(5, .int xs0), (0, .ref a0), (1, .long j1), (3, .int x3), (4, .int x4)]) rfl ?_
  refine a_lload_n dX0_atOnce_49 rfl rfl ?_
  refine a_aload_n dX0_atOnce_50 rfl rfl ?_
  obtain ⟨⟨ga1, gs2⟩, h⟩ := gd_t h
  obtain ⟨r3, e4, h⟩ := bnd_t h
  refine a_get (v := .ref r3) dX0_atOnce_51 fl_0_19 ga1 gs2 (gvR e4 rfl) ?_
  refine a_iload_n dX0_atOnce_54 rfl rfl ?_
  obtain ⟨⟨ga5, gn6, gs7, gi8⟩, h⟩ := gd_t h
  refine a_laload dX0_atOnce_55 ga5 gs7 gi8 ?_
  refine a_land dX0_atOnce_56 ?_
  refine a_lconst (v := 0) dX0_atOnce_57 (by decide) ?_
  refine a_lcmp dX0_atOnce_58 ?_
  refine a_if_eq 66 dX0_atOnce_59 (by decide) (fun c9 => ?_) (fun c9 => ?_)
  · replace h := ite_t c9 h
    refine a_iconst (v := 0) dX0_atOnce_66 (by decide) ?_
    exact a_lv (lv2 := [(0, .ref a0), (3, .int x3), (4, .int x4), (5, .int xs0)]) (fa_cons rfl (fa_cons rfl (fa_cons rfl (fa_cons rfl fa_nil)))) (hJ _ _ _ h)
  · replace h := ite_f c9 h
    refine a_iconst (v := 1) dX0_atOnce_62 (by decide) ?_
    refine a_goto 67 dX0_atOnce_63 (by decide) ?_
    exact a_lv (lv2 := [(0, .ref a0), (3, .int x3), (4, .int x4), (5, .int xs0)]) (fa_cons rfl (fa_cons rfl (fa_cons rfl (fa_cons rfl fa_nil)))) (hJ _ _ _ h)
set_option maxHeartbeats 4000000 in
set_option maxRecDepth 100000 in
noncomputable def T_X0_atOnce_67.{u} {α : Sort u} (J : Nat → List Value → Mem → α) (R : Int64 → Mem → α) (N : α) (n : Nat) (a0 : Nat) (x3 : Int32) (x4 : Int32) (x5 : Int32) (xs0 : Int32) (M : Mem) : α := gd (fO M a0 0) N (bnd (M.2.2.2.2 a0 1) N (fun r3 => gd (fA M r3 1 x3) N (if (M.2.2.1 r3 (x3.toNatClampNeg)) = 9 then if xs0 = 0 then if x4 = 0 then R 0 M else if x5 = 0 then R 0 M else bnd (M.2.2.2.2 a0 3) N (fun r13 => gd (fA M r13 2 x3) N (R (M.2.2.2.1 r13 (x3.toNatClampNeg)) M)) else R (1 <<< (Int32.toInt64 x3 &&& 63)) M else if (M.2.2.1 r3 (x3.toNatClampNeg)) = 10 then if x4 = 0 then if x5 = 0 then R 0 M else if xs0 = 0 then R 0 M else R (1 <<< (Int32.toInt64 x3 &&& 63)) M else bnd (M.2.2.2.2 a0 2) N (fun r23 => gd (fA M r23 2 x3) N (bnd (M.2.2.2.2 a0 3) N (fun r29 => gd (fA M r29 2 x3) N (R ((M.2.2.2.1 r23 (x3.toNatClampNeg)) ||| (M.2.2.2.1 r29 (x3.toNatClampNeg))) M)))) else if x5 = 0 then if xs0 = 0 then R 0 M else R (1 <<< (Int32.toInt64 x3 &&& 63)) M else R (1 <<< (Int32.toInt64 x3 &&& 63)) M)))
set_option maxHeartbeats 4000000 in
set_option maxRecDepth 100000 in
theorem n_X0_atOnce_67.{u, v} {α : Sort u} {β : Sort v} (h : α → β) (J : Nat → List Value → Mem → α) (R : Int64 → Mem → α) (N : α) (n : Nat) (a0 : Nat) (x3 : Int32) (x4 : Int32) (x5 : Int32) (xs0 : Int32) (M : Mem) : h (T_X0_atOnce_67 J R N n a0 x3 x4 x5 xs0 M) = T_X0_atOnce_67 (fun c l M => h (J c l M)) (fun v M => h (R v M)) (h N) n a0 x3 x4 x5 xs0 M := by
  simp only [T_X0_atOnce_67, nat_ite h, nat_gd h, nat_bnd h, nat_bnd2 h]
set_option maxHeartbeats 4000000 in
set_option maxRecDepth 100000 in
theorem w_X0_atOnce_67 {X : Nat × (Nat → Int32)} {al : Bool} {n : Nat} {Q : Option Value → Mem → Prop} {J : Nat → List Value → Mem → Prop} (hJ : ∀ c l M, J c l M → PW_X0_atOnce X al n Q c l M) {R : Int64 → Mem → Prop} (hR : ∀ v M, R v M → Q (some (.long v)) M) {a0 : Nat} {x3 : Int32} {x4 : Int32} {x5 : Int32} {xs0 : Int32} {M : Mem} (h : T_X0_atOnce_67 J R False n a0 x3 x4 x5 xs0 M) : AW X (RX0, cX0_atOnce, 7, (some .long), false, al, n) 0 0 67 [(0, .ref a0), (3, .int x3), (4, .int x4), (5, .int x5)] [.int xs0] M Q := by
  unfold T_X0_atOnce_67 at h
  refine a_istore dX0_atOnce_67 (Nat.le_of_ble_eq_true rfl) (lv2 := [(6, .int xs0), (0, .ref a0), (3, .int x3), (4, .int x4), (5, .int x5)]) rfl ?_
  refine a_aload_n dX0_atOnce_69 rfl rfl ?_
  obtain ⟨⟨ga1, gs2⟩, h⟩ := gd_t h
  obtain ⟨r3, e4, h⟩ := bnd_t h
  refine a_get (v := .ref r3) dX0_atOnce_70 fl_0_9 ga1 gs2 (gvR e4 rfl) ?_
  refine a_iload_n dX0_atOnce_73 rfl rfl ?_
  obtain ⟨⟨ga5, gn6, gs7, gi8⟩, h⟩ := gd_t h
  refine a_iaload dX0_atOnce_74 ga5 gs7 gi8 ?_
  by_cases c9 : (M.2.2.1 r3 (x3.toNatClampNeg)) = 9
  · replace h := ite_t c9 h
    refine a_lookup (off := 25) 100 dX0_atOnce_75 (by decide) (by rw [c9]; rfl) (by decide) ?_
    refine a_iload dX0_atOnce_100 rfl ?_
    refine a_if_eq 111 dX0_atOnce_102 (by decide) (fun c10 => ?_) (fun c10 => ?_)
    · replace h := ite_t c10 h
      refine a_iload dX0_atOnce_111 rfl ?_
      refine a_if_eq 130 dX0_atOnce_113 (by decide) (fun c11 => ?_) (fun c11 => ?_)
      · replace h := ite_t c11 h
        refine a_lconst (v := 0) dX0_atOnce_130 (by decide) ?_
        exact a_lret dX0_atOnce_131 rfl (hR _ _ h)
      · replace h := ite_f c11 h
        refine a_iload dX0_atOnce_116 rfl ?_
        refine a_if_eq 130 dX0_atOnce_118 (by decide) (fun c12 => ?_) (fun c12 => ?_)
        · replace h := ite_t c12 h
          refine a_lconst (v := 0) dX0_atOnce_130 (by decide) ?_
          exact a_lret dX0_atOnce_131 rfl (hR _ _ h)
        · replace h := ite_f c12 h
          refine a_aload_n dX0_atOnce_121 rfl rfl ?_
          obtain ⟨r13, e14, h⟩ := bnd_t h
          refine a_get (v := .ref r13) dX0_atOnce_122 fl_0_19 ga1 gs2 (gvR e14 rfl) ?_
          refine a_iload_n dX0_atOnce_125 rfl rfl ?_
          obtain ⟨⟨ga15, gn16, gs17, gi18⟩, h⟩ := gd_t h
          refine a_laload dX0_atOnce_126 ga15 gs17 gi18 ?_
          refine a_goto 131 dX0_atOnce_127 (by decide) ?_
          exact a_lret dX0_atOnce_131 rfl (hR _ _ h)
    · replace h := ite_f c10 h
      refine a_lconst (v := 1) dX0_atOnce_105 (by decide) ?_
      refine a_iload_n dX0_atOnce_106 rfl rfl ?_
      refine a_lshl dX0_atOnce_107 ?_
      refine a_goto 131 dX0_atOnce_108 (by decide) ?_
      exact a_lret dX0_atOnce_131 rfl (hR _ _ h)
  replace h := ite_f c9 h
  by_cases c19 : (M.2.2.1 r3 (x3.toNatClampNeg)) = 10
  · replace h := ite_t c19 h
    refine a_lookup (off := 57) 132 dX0_atOnce_75 (by decide) (by rw [c19]; rfl) (by decide) ?_
    refine a_iload dX0_atOnce_132 rfl ?_
    refine a_if_eq 153 dX0_atOnce_134 (by decide) (fun c20 => ?_) (fun c20 => ?_)
    · replace h := ite_t c20 h
      refine a_iload dX0_atOnce_153 rfl ?_
      refine a_if_eq 169 dX0_atOnce_155 (by decide) (fun c21 => ?_) (fun c21 => ?_)
      · replace h := ite_t c21 h
        refine a_lconst (v := 0) dX0_atOnce_169 (by decide) ?_
        exact a_lret dX0_atOnce_170 rfl (hR _ _ h)
      · replace h := ite_f c21 h
        refine a_iload dX0_atOnce_158 rfl ?_
        refine a_if_eq 169 dX0_atOnce_160 (by decide) (fun c22 => ?_) (fun c22 => ?_)
        · replace h := ite_t c22 h
          refine a_lconst (v := 0) dX0_atOnce_169 (by decide) ?_
          exact a_lret dX0_atOnce_170 rfl (hR _ _ h)
        · replace h := ite_f c22 h
          refine a_lconst (v := 1) dX0_atOnce_163 (by decide) ?_
          refine a_iload_n dX0_atOnce_164 rfl rfl ?_
          refine a_lshl dX0_atOnce_165 ?_
          refine a_goto 170 dX0_atOnce_166 (by decide) ?_
          exact a_lret dX0_atOnce_170 rfl (hR _ _ h)
    · replace h := ite_f c20 h
      refine a_aload_n dX0_atOnce_137 rfl rfl ?_
      obtain ⟨r23, e24, h⟩ := bnd_t h
      refine a_get (v := .ref r23) dX0_atOnce_138 fl_0_15 ga1 gs2 (gvR e24 rfl) ?_
      refine a_iload_n dX0_atOnce_141 rfl rfl ?_
      obtain ⟨⟨ga25, gn26, gs27, gi28⟩, h⟩ := gd_t h
      refine a_laload dX0_atOnce_142 ga25 gs27 gi28 ?_
      refine a_aload_n dX0_atOnce_143 rfl rfl ?_
      obtain ⟨r29, e30, h⟩ := bnd_t h
      refine a_get (v := .ref r29) dX0_atOnce_144 fl_0_19 ga1 gs2 (gvR e30 rfl) ?_
      refine a_iload_n dX0_atOnce_147 rfl rfl ?_
      obtain ⟨⟨ga31, gn32, gs33, gi34⟩, h⟩ := gd_t h
      refine a_laload dX0_atOnce_148 ga31 gs33 gi34 ?_
      refine a_lor dX0_atOnce_149 ?_
      refine a_goto 170 dX0_atOnce_150 (by decide) ?_
      exact a_lret dX0_atOnce_170 rfl (hR _ _ h)
  replace h := ite_f c19 h
  refine a_lookup (off := 96) 171 dX0_atOnce_75 (by decide) (by have q0 := ne_toInt (z := 9) c9 rfl; have q1 := ne_toInt (z := 10) c19 rfl; exact lk_none (by assumption) (by assumption)) (by decide) ?_
  refine a_iload dX0_atOnce_171 rfl ?_
  refine a_if_ne 181 dX0_atOnce_173 (by decide) (fun c35 => ?_) (fun c35 => ?_)
  · replace h := ite_f c35 h
    refine a_lconst (v := 1) dX0_atOnce_181 (by decide) ?_
    refine a_iload_n dX0_atOnce_182 rfl rfl ?_
    refine a_lshl dX0_atOnce_183 ?_
    refine a_goto 188 dX0_atOnce_184 (by decide) ?_
    exact a_lret dX0_atOnce_188 rfl (hR _ _ h)
  · replace h := ite_t c35 h
    refine a_iload dX0_atOnce_176 rfl ?_
    refine a_if_eq 187 dX0_atOnce_178 (by decide) (fun c36 => ?_) (fun c36 => ?_)
    · replace h := ite_t c36 h
      refine a_lconst (v := 0) dX0_atOnce_187 (by decide) ?_
      exact a_lret dX0_atOnce_188 rfl (hR _ _ h)
    · replace h := ite_f c36 h
      refine a_lconst (v := 1) dX0_atOnce_181 (by decide) ?_
      refine a_iload_n dX0_atOnce_182 rfl rfl ?_
      refine a_lshl dX0_atOnce_183 ?_
      refine a_goto 188 dX0_atOnce_184 (by decide) ?_
      exact a_lret dX0_atOnce_188 rfl (hR _ _ h)
set_option maxHeartbeats 4000000 in
set_option maxRecDepth 100000 in
noncomputable def st_X0_atOnce (n : Nat) (s : Sg) : Option (Sg ⊕ (Int64 × Mem)) := if s.1 = 0 then vR s.2.1 none (fun a0 t => vJ t none (fun j1 t => vI t none (fun x3 t => vE t none (T_X0_atOnce_0 (fun c l M => some (.inl (c, l, M))) (fun v M => some (.inr (v, M))) none n a0 j1 x3 s.2.2)))) else if s.1 = 27 then vR s.2.1 none (fun a0 t => vJ t none (fun j1 t => vI t none (fun x3 t => vI t none (fun xs0 t => vE t none (T_X0_atOnce_27 (fun c l M => some (.inl (c, l, M))) (fun v M => some (.inr (v, M))) none n a0 j1 x3 xs0 s.2.2))))) else if s.1 = 47 then vR s.2.1 none (fun a0 t => vJ t none (fun j1 t => vI t none (fun x3 t => vI t none (fun x4 t => vI t none (fun xs0 t => vE t none (T_X0_atOnce_47 (fun c l M => some (.inl (c, l, M))) (fun v M => some (.inr (v, M))) none n a0 j1 x3 x4 xs0 s.2.2)))))) else if s.1 = 67 then vR s.2.1 none (fun a0 t => vI t none (fun x3 t => vI t none (fun x4 t => vI t none (fun x5 t => vI t none (fun xs0 t => vE t none (T_X0_atOnce_67 (fun c l M => some (.inl (c, l, M))) (fun v M => some (.inr (v, M))) none n a0 x3 x4 x5 xs0 s.2.2)))))) else none
noncomputable abbrev g_X0_atOnce_0 (n : Nat) (a0 : Nat) (j1 : Int64) (x3 : Int32) (M : Mem) : Option (Int64 × Mem) := lp (st_X0_atOnce n) (0, [.ref a0, .long j1, .int x3], M)
set_option maxHeartbeats 4000000 in
set_option maxRecDepth 100000 in
theorem ge_X0_atOnce_0 (n : Nat) (a0 : Nat) (j1 : Int64) (x3 : Int32) (M : Mem) : g_X0_atOnce_0 n a0 j1 x3 M = T_X0_atOnce_0 (fun c l M => lp (st_X0_atOnce n) (c, l, M)) (fun v M => some (v, M)) none n a0 j1 x3 M := (lp_eq _ _).trans (n_X0_atOnce_0 (lpK (st_X0_atOnce n)) (fun c l M => some (.inl (c, l, M))) (fun v M => some (.inr (v, M))) none n a0 j1 x3 M)
noncomputable abbrev g_X0_atOnce_27 (n : Nat) (a0 : Nat) (j1 : Int64) (x3 : Int32) (xs0 : Int32) (M : Mem) : Option (Int64 × Mem) := lp (st_X0_atOnce n) (27, [.ref a0, .long j1, .int x3, .int xs0], M)
set_option maxHeartbeats 4000000 in
set_option maxRecDepth 100000 in
theorem ge_X0_atOnce_27 (n : Nat) (a0 : Nat) (j1 : Int64) (x3 : Int32) (xs0 : Int32) (M : Mem) : g_X0_atOnce_27 n a0 j1 x3 xs0 M = T_X0_atOnce_27 (fun c l M => lp (st_X0_atOnce n) (c, l, M)) (fun v M => some (v, M)) none n a0 j1 x3 xs0 M := (lp_eq _ _).trans (n_X0_atOnce_27 (lpK (st_X0_atOnce n)) (fun c l M => some (.inl (c, l, M))) (fun v M => some (.inr (v, M))) none n a0 j1 x3 xs0 M)
noncomputable abbrev g_X0_atOnce_47 (n : Nat) (a0 : Nat) (j1 : Int64) (x3 : Int32) (x4 : Int32) (xs0 : Int32) (M : Mem) : Option (Int64 × Mem) := lp (st_X0_atOnce n) (47, [.ref a0, .long j1, .int x3, .int x4, .int xs0], M)
set_option maxHeartbeats 4000000 in
set_option maxRecDepth 100000 in
theorem ge_X0_atOnce_47 (n : Nat) (a0 : Nat) (j1 : Int64) (x3 : Int32) (x4 : Int32) (xs0 : Int32) (M : Mem) : g_X0_atOnce_47 n a0 j1 x3 x4 xs0 M = T_X0_atOnce_47 (fun c l M => lp (st_X0_atOnce n) (c, l, M)) (fun v M => some (v, M)) none n a0 j1 x3 x4 xs0 M := (lp_eq _ _).trans (n_X0_atOnce_47 (lpK (st_X0_atOnce n)) (fun c l M => some (.inl (c, l, M))) (fun v M => some (.inr (v, M))) none n a0 j1 x3 x4 xs0 M)
noncomputable abbrev g_X0_atOnce_67 (n : Nat) (a0 : Nat) (x3 : Int32) (x4 : Int32) (x5 : Int32) (xs0 : Int32) (M : Mem) : Option (Int64 × Mem) := lp (st_X0_atOnce n) (67, [.ref a0, .int x3, .int x4, .int x5, .int xs0], M)
set_option maxHeartbeats 4000000 in
set_option maxRecDepth 100000 in
theorem ge_X0_atOnce_67 (n : Nat) (a0 : Nat) (x3 : Int32) (x4 : Int32) (x5 : Int32) (xs0 : Int32) (M : Mem) : g_X0_atOnce_67 n a0 x3 x4 x5 xs0 M = T_X0_atOnce_67 (fun c l M => lp (st_X0_atOnce n) (c, l, M)) (fun v M => some (v, M)) none n a0 x3 x4 x5 xs0 M := (lp_eq _ _).trans (n_X0_atOnce_67 (lpK (st_X0_atOnce n)) (fun c l M => some (.inl (c, l, M))) (fun v M => some (.inr (v, M))) none n a0 x3 x4 x5 xs0 M)
noncomputable def b_X0_atOnce (n : Nat) (a0 : Nat) (j1 : Int64) (x3 : Int32) (M : Mem) : Option (Int64 × Mem) := g_X0_atOnce_0 n a0 j1 x3 M
set_option maxHeartbeats 4000000 in
set_option maxRecDepth 100000 in
theorem sb_X0_atOnce {X : Nat × (Nat → Int32)} {al : Bool} {n : Nat} {a0 : Nat} {j1 : Int64} {x3 : Int32} {M : Mem} {v : Int64} {M1 : Mem} (h : b_X0_atOnce n a0 j1 x3 M = some (v, M1)) : AE yX0_atOnce cX0_atOnce 7 (some .long) al n X [.ref a0, .long j1, .int x3] M (some (.long v)) M1 := by
  refine AM.of false (by decide +kernel) (by intro h; cases h) (Nat.le_of_ble_eq_true rfl) ?_
  refine lp_snd (P := fun s r => PW_X0_atOnce X al n (fun v M2 => v = (some (.long r.1)) ∧ M2 = r.2) s.1 s.2.1 s.2.2) ?_ h
  clear h
  rintro ⟨c, l, M⟩ r h
  unfold st_X0_atOnce at h
  rcases ite_p h with ⟨e, h⟩ | ⟨e, h⟩
  · replace e : c = 0 := e
    subst e
    obtain ⟨a0, tt0, e, h⟩ := vR_p id h
    replace e : l = _ := e
    subst e
    obtain ⟨j1, tt1, e, h⟩ := vJ_p id h
    replace e : tt0 = _ := e
    subst e
    obtain ⟨x3, tt2, e, h⟩ := vI_p id h
    replace e : tt1 = _ := e
    subst e
    obtain ⟨e, h⟩ := vE_p id h
    replace e : tt2 = [] := e
    subst e
    exact w_X0_atOnce_0 (J := fun c l M => PW_X0_atOnce X al n (fun v M2 => v = (some (.long r.1)) ∧ M2 = r.2) c l M) (R := fun v M => (v, M) = r) (fun _ _ _ h => h) (fun v M h => by cases h; exact ⟨rfl, rfl⟩) ((n_X0_atOnce_0 (lpP (fun (s : Sg) (r : Int64 × Mem) => PW_X0_atOnce X al n (fun v M2 => v = (some (.long r.1)) ∧ M2 = r.2) s.1 s.2.1 s.2.2) r) (fun c l M => some (.inl (c, l, M))) (fun v M => some (.inr (v, M))) none n a0 j1 x3 M).mp h)
  rcases ite_p h with ⟨e, h⟩ | ⟨e, h⟩
  · replace e : c = 27 := e
    subst e
    obtain ⟨a0, tt0, e, h⟩ := vR_p id h
    replace e : l = _ := e
    subst e
    obtain ⟨j1, tt1, e, h⟩ := vJ_p id h
    replace e : tt0 = _ := e
    subst e
    obtain ⟨x3, tt2, e, h⟩ := vI_p id h
    replace e : tt1 = _ := e
    subst e
    obtain ⟨xs0, tt3, e, h⟩ := vI_p id h
    replace e : tt2 = _ := e
    subst e
    obtain ⟨e, h⟩ := vE_p id h
    replace e : tt3 = [] := e
    subst e
    exact w_X0_atOnce_27 (J := fun c l M => PW_X0_atOnce X al n (fun v M2 => v = (some (.long r.1)) ∧ M2 = r.2) c l M) (R := fun v M => (v, M) = r) (fun _ _ _ h => h) (fun v M h => by cases h; exact ⟨rfl, rfl⟩) ((n_X0_atOnce_27 (lpP (fun (s : Sg) (r : Int64 × Mem) => PW_X0_atOnce X al n (fun v M2 => v = (some (.long r.1)) ∧ M2 = r.2) s.1 s.2.1 s.2.2) r) (fun c l M => some (.inl (c, l, M))) (fun v M => some (.inr (v, M))) none n a0 j1 x3 xs0 M).mp h)
  rcases ite_p h with ⟨e, h⟩ | ⟨e, h⟩
  · replace e : c = 47 := e
    subst e
    obtain ⟨a0, tt0, e, h⟩ := vR_p id h
    replace e : l = _ := e
    subst e
    obtain ⟨j1, tt1, e, h⟩ := vJ_p id h
    replace e : tt0 = _ := e
    subst e
    obtain ⟨x3, tt2, e, h⟩ := vI_p id h
    replace e : tt1 = _ := e
    subst e
    obtain ⟨x4, tt3, e, h⟩ := vI_p id h
    replace e : tt2 = _ := e
    subst e
    obtain ⟨xs0, tt4, e, h⟩ := vI_p id h
    replace e : tt3 = _ := e
    subst e
    obtain ⟨e, h⟩ := vE_p id h
    replace e : tt4 = [] := e
    subst e
    exact w_X0_atOnce_47 (J := fun c l M => PW_X0_atOnce X al n (fun v M2 => v = (some (.long r.1)) ∧ M2 = r.2) c l M) (R := fun v M => (v, M) = r) (fun _ _ _ h => h) (fun v M h => by cases h; exact ⟨rfl, rfl⟩) ((n_X0_atOnce_47 (lpP (fun (s : Sg) (r : Int64 × Mem) => PW_X0_atOnce X al n (fun v M2 => v = (some (.long r.1)) ∧ M2 = r.2) s.1 s.2.1 s.2.2) r) (fun c l M => some (.inl (c, l, M))) (fun v M => some (.inr (v, M))) none n a0 j1 x3 x4 xs0 M).mp h)
  rcases ite_p h with ⟨e, h⟩ | ⟨e, h⟩
  · replace e : c = 67 := e
    subst e
    obtain ⟨a0, tt0, e, h⟩ := vR_p id h
    replace e : l = _ := e
    subst e
    obtain ⟨x3, tt1, e, h⟩ := vI_p id h
    replace e : tt0 = _ := e
    subst e
    obtain ⟨x4, tt2, e, h⟩ := vI_p id h
    replace e : tt1 = _ := e
    subst e
    obtain ⟨x5, tt3, e, h⟩ := vI_p id h
    replace e : tt2 = _ := e
    subst e
    obtain ⟨xs0, tt4, e, h⟩ := vI_p id h
    replace e : tt3 = _ := e
    subst e
    obtain ⟨e, h⟩ := vE_p id h
    replace e : tt4 = [] := e
    subst e
    exact w_X0_atOnce_67 (J := fun c l M => PW_X0_atOnce X al n (fun v M2 => v = (some (.long r.1)) ∧ M2 = r.2) c l M) (R := fun v M => (v, M) = r) (fun _ _ _ h => h) (fun v M h => by cases h; exact ⟨rfl, rfl⟩) ((n_X0_atOnce_67 (lpP (fun (s : Sg) (r : Int64 × Mem) => PW_X0_atOnce X al n (fun v M2 => v = (some (.long r.1)) ∧ M2 = r.2) s.1 s.2.1 s.2.2) r) (fun c l M => some (.inl (c, l, M))) (fun v M => some (.inr (v, M))) none n a0 x3 x4 x5 xs0 M).mp h)
  · exact h.elim

noncomputable abbrev f_X0_atOnce := b_X0_atOnce
theorem s_X0_atOnce {X : Nat × (Nat → Int32)} {al : Bool} {n : Nat} {a0 : Nat} {j1 : Int64} {x3 : Int32} {M : Mem} {v : Int64} {M1 : Mem} (h : f_X0_atOnce n a0 j1 x3 M = some (v, M1)) : AE yX0_atOnce cX0_atOnce 7 (some .long) al n X [.ref a0, .long j1, .int x3] M (some (.long v)) M1 := sb_X0_atOnce h
def ix_X0_saturate (c : Nat) : List Nat := if c = 0 then [0, 1] else if c = 5 then [0, 3, 5] else if c = 18 then [0, 3, 5, 6, 8] else []
def PW_X0_saturate (X : Nat × (Nat → Int32)) (al : Bool) (n : Nat) (Q : Option Value → Mem → Prop) (c : Nat) (l : List Value) (M : Mem) : Prop := AW X (RX0, cX0_saturate, 9, (some .long), false, al, n) 0 0 c (List.zip (ix_X0_saturate c) l) (l.drop (ix_X0_saturate c).length) M Q
set_option maxHeartbeats 4000000 in
set_option maxRecDepth 100000 in
noncomputable def T_X0_saturate_0.{u} {α : Sort u} (J : Nat → List Value → Mem → α) (R : Int64 → Mem → α) (N : α) (n : Nat) (a0 : Nat) (j1 : Int64) (M : Mem) : α := J 5 [.ref a0, .long j1, .int 0] M
set_option maxHeartbeats 4000000 in
set_option maxRecDepth 100000 in
theorem n_X0_saturate_0.{u, v} {α : Sort u} {β : Sort v} (h : α → β) (J : Nat → List Value → Mem → α) (R : Int64 → Mem → α) (N : α) (n : Nat) (a0 : Nat) (j1 : Int64) (M : Mem) : h (T_X0_saturate_0 J R N n a0 j1 M) = T_X0_saturate_0 (fun c l M => h (J c l M)) (fun v M => h (R v M)) (h N) n a0 j1 M := by
  simp only [T_X0_saturate_0, nat_ite h, nat_gd h, nat_bnd h, nat_bnd2 h]
set_option maxHeartbeats 4000000 in
set_option maxRecDepth 100000 in
theorem w_X0_saturate_0 {X : Nat × (Nat → Int32)} {al : Bool} {n : Nat} {Q : Option Value → Mem → Prop} {J : Nat → List Value → Mem → Prop} (hJ : ∀ c l M, J c l M → PW_X0_saturate X al n Q c l M) {R : Int64 → Mem → Prop} (hR : ∀ v M, R v M → Q (some (.long v)) M) {a0 : Nat} {j1 : Int64} {M : Mem} (h : T_X0_saturate_0 J R False n a0 j1 M) : AW X (RX0, cX0_saturate, 9, (some .long), false, al, n) 0 0 0 [(0, .ref a0), (1, .long j1)] [] M Q := by
  unfold T_X0_saturate_0 at h
  refine a_lload_n dX0_saturate_0 rfl rfl ?_
  refine a_lstore_n dX0_saturate_1 rfl (Nat.le_of_ble_eq_true rfl) (lv2 := [(3, .long j1), (0, .ref a0), (1, .long j1)]) rfl ?_
  refine a_iconst (v := 0) dX0_saturate_2 (by decide) ?_
  refine a_istore dX0_saturate_3 (Nat.le_of_ble_eq_true rfl) (lv2 := [(5, .int 0), (3, .long j1), (0, .ref a0), (1, .long j1)]) rfl ?_
  exact a_lv (lv2 := [(0, .ref a0), (3, .long j1), (5, .int 0)]) (fa_cons rfl (fa_cons rfl (fa_cons rfl fa_nil))) (hJ _ _ _ h)
set_option maxHeartbeats 4000000 in
set_option maxRecDepth 100000 in
noncomputable def T_X0_saturate_5.{u} {α : Sort u} (J : Nat → List Value → Mem → α) (R : Int64 → Mem → α) (N : α) (n : Nat) (a0 : Nat) (j3 : Int64) (x5 : Int32) (M : Mem) : α := if 40 < x5 then R j3 M else J 18 [.ref a0, .long j3, .int x5, .long j3, .int 0] M
set_option maxHeartbeats 4000000 in
set_option maxRecDepth 100000 in
theorem n_X0_saturate_5.{u, v} {α : Sort u} {β : Sort v} (h : α → β) (J : Nat → List Value → Mem → α) (R : Int64 → Mem → α) (N : α) (n : Nat) (a0 : Nat) (j3 : Int64) (x5 : Int32) (M : Mem) : h (T_X0_saturate_5 J R N n a0 j3 x5 M) = T_X0_saturate_5 (fun c l M => h (J c l M)) (fun v M => h (R v M)) (h N) n a0 j3 x5 M := by
  simp only [T_X0_saturate_5, nat_ite h, nat_gd h, nat_bnd h, nat_bnd2 h]
set_option maxHeartbeats 4000000 in
set_option maxRecDepth 100000 in
theorem w_X0_saturate_5 {X : Nat × (Nat → Int32)} {al : Bool} {n : Nat} {Q : Option Value → Mem → Prop} {J : Nat → List Value → Mem → Prop} (hJ : ∀ c l M, J c l M → PW_X0_saturate X al n Q c l M) {R : Int64 → Mem → Prop} (hR : ∀ v M, R v M → Q (some (.long v)) M) {a0 : Nat} {j3 : Int64} {x5 : Int32} {M : Mem} (h : T_X0_saturate_5 J R False n a0 j3 x5 M) : AW X (RX0, cX0_saturate, 9, (some .long), false, al, n) 0 0 5 [(0, .ref a0), (3, .long j3), (5, .int x5)] [] M Q := by
  unfold T_X0_saturate_5 at h
  refine a_iload dX0_saturate_5 rfl ?_
  refine a_bipush (v := 40) dX0_saturate_7 (by decide) ?_
  refine a_icmp_gt 70 dX0_saturate_9 (by decide) (fun c1 => ?_) (fun c1 => ?_)
  · replace h := ite_t c1 h
    refine a_lload_n dX0_saturate_70 rfl rfl ?_
    exact a_lret dX0_saturate_71 rfl (hR _ _ h)
  · replace h := ite_f c1 h
    refine a_lload_n dX0_saturate_12 rfl rfl ?_
    refine a_lstore dX0_saturate_13 (Nat.le_of_ble_eq_true rfl) (lv2 := [(6, .long j3), (0, .ref a0), (3, .long j3), (5, .int x5)]) rfl ?_
    refine a_iconst (v := 0) dX0_saturate_15 (by decide) ?_
    refine a_istore dX0_saturate_16 (Nat.le_of_ble_eq_true rfl) (lv2 := [(8, .int 0), (6, .long j3), (0, .ref a0), (3, .long j3), (5, .int x5)]) rfl ?_
    exact a_lv (lv2 := [(0, .ref a0), (3, .long j3), (5, .int x5), (6, .long j3), (8, .int 0)]) (fa_cons rfl (fa_cons rfl (fa_cons rfl (fa_cons rfl (fa_cons rfl fa_nil))))) (hJ _ _ _ h)
set_option maxHeartbeats 4000000 in
set_option maxRecDepth 100000 in
noncomputable def T_X0_saturate_18.{u} {α : Sort u} (J : Nat → List Value → Mem → α) (R : Int64 → Mem → α) (N : α) (n : Nat) (a0 : Nat) (j3 : Int64) (x5 : Int32) (j6 : Int64) (x8 : Int32) (M : Mem) : α := gd (fO M a0 0) N (if (M.2.2.1 a0 7) ≤ x8 then if (lg_cmp j3 j6) = 0 then R j3 M else J 5 [.ref a0, .long j3, .int (x5 + 1)] M else bnd (M.2.2.2.2 a0 1) N (fun r5 => gd (fA M r5 1 x8) N (if (M.2.2.1 r5 (x8.toNatClampNeg)) < 9 then J 18 [.ref a0, .long j3, .int x5, .long j6, .int (x8 + 1)] M else bnd2 (cal n (fun n => f_X0_atOnce n a0 j3 x8 M)) N (fun v12 M13 => J 18 [.ref a0, .long (j3 ||| v12), .int x5, .long j6, .int (x8 + 1)] M13))))
set_option maxHeartbeats 4000000 in
set_option maxRecDepth 100000 in
theorem n_X0_saturate_18.{u, v} {α : Sort u} {β : Sort v} (h : α → β) (J : Nat → List Value → Mem → α) (R : Int64 → Mem → α) (N : α) (n : Nat) (a0 : Nat) (j3 : Int64) (x5 : Int32) (j6 : Int64) (x8 : Int32) (M : Mem) : h (T_X0_saturate_18 J R N n a0 j3 x5 j6 x8 M) = T_X0_saturate_18 (fun c l M => h (J c l M)) (fun v M => h (R v M)) (h N) n a0 j3 x5 j6 x8 M := by
  simp only [T_X0_saturate_18, nat_ite h, nat_gd h, nat_bnd h, nat_bnd2 h]
set_option maxHeartbeats 4000000 in
set_option maxRecDepth 100000 in
theorem w_X0_saturate_18 {X : Nat × (Nat → Int32)} {al : Bool} {n : Nat} {Q : Option Value → Mem → Prop} {J : Nat → List Value → Mem → Prop} (hJ : ∀ c l M, J c l M → PW_X0_saturate X al n Q c l M) {R : Int64 → Mem → Prop} (hR : ∀ v M, R v M → Q (some (.long v)) M) {a0 : Nat} {j3 : Int64} {x5 : Int32} {j6 : Int64} {x8 : Int32} {M : Mem} (h : T_X0_saturate_18 J R False n a0 j3 x5 j6 x8 M) : AW X (RX0, cX0_saturate, 9, (some .long), false, al, n) 0 0 18 [(0, .ref a0), (3, .long j3), (5, .int x5), (6, .long j6), (8, .int x8)] [] M Q := by
  unfold T_X0_saturate_18 at h
  refine a_iload dX0_saturate_18 rfl ?_
  refine a_aload_n dX0_saturate_20 rfl rfl ?_
  obtain ⟨⟨ga1, gs2⟩, h⟩ := gd_t h
  refine a_get (v := .int (M.2.2.1 a0 7)) dX0_saturate_21 fl_0_79 ga1 gs2 rfl ?_
  refine a_icmp_ge 55 dX0_saturate_24 (by decide) (fun c3 => ?_) (fun c3 => ?_)
  · replace h := ite_t c3 h
    refine a_lload_n dX0_saturate_55 rfl rfl ?_
    refine a_lload dX0_saturate_56 rfl ?_
    refine a_lcmp dX0_saturate_58 ?_
    refine a_if_ne 64 dX0_saturate_59 (by decide) (fun c4 => ?_) (fun c4 => ?_)
    · replace h := ite_f c4 h
      refine a_iinc (v := (x5 + 1)) dX0_saturate_64 rfl (by first | rfl | decide) (Nat.le_of_ble_eq_true rfl) (lv2 := [(5, .int (x5 + 1)), (0, .ref a0), (3, .long j3), (6, .long j6), (8, .int x8)]) rfl ?_
      refine a_goto 5 dX0_saturate_67 (by decide) ?_
      exact a_lv (lv2 := [(0, .ref a0), (3, .long j3), (5, .int (x5 + 1))]) (fa_cons rfl (fa_cons rfl (fa_cons rfl fa_nil))) (hJ _ _ _ h)
    · replace h := ite_t c4 h
      refine a_lload_n dX0_saturate_62 rfl rfl ?_
      exact a_lret dX0_saturate_63 rfl (hR _ _ h)
  · replace h := ite_f c3 h
    refine a_aload_n dX0_saturate_27 rfl rfl ?_
    obtain ⟨r5, e6, h⟩ := bnd_t h
    refine a_get (v := .ref r5) dX0_saturate_28 fl_0_9 ga1 gs2 (gvR e6 rfl) ?_
    refine a_iload dX0_saturate_31 rfl ?_
    obtain ⟨⟨ga7, gn8, gs9, gi10⟩, h⟩ := gd_t h
    refine a_iaload dX0_saturate_33 ga7 gs9 gi10 ?_
    refine a_bipush (v := 9) dX0_saturate_34 (by decide) ?_
    refine a_icmp_lt 49 dX0_saturate_36 (by decide) (fun c11 => ?_) (fun c11 => ?_)
    · replace h := ite_t c11 h
      refine a_iinc (v := (x8 + 1)) dX0_saturate_49 rfl (by first | rfl | decide) (Nat.le_of_ble_eq_true rfl) (lv2 := [(8, .int (x8 + 1)), (0, .ref a0), (3, .long j3), (5, .int x5), (6, .long j6)]) rfl ?_
      refine a_goto 18 dX0_saturate_52 (by decide) ?_
      exact a_lv (lv2 := [(0, .ref a0), (3, .long j3), (5, .int x5), (6, .long j6), (8, .int (x8 + 1))]) (fa_cons rfl (fa_cons rfl (fa_cons rfl (fa_cons rfl (fa_cons rfl fa_nil))))) (hJ _ _ _ h)
    · replace h := ite_f c11 h
      refine a_lload_n dX0_saturate_39 rfl rfl ?_
      refine a_aload_n dX0_saturate_40 rfl rfl ?_
      refine a_lload_n dX0_saturate_41 rfl rfl ?_
      refine a_iload dX0_saturate_42 rfl ?_
      obtain ⟨v12, M13, e14, h⟩ := bnd2_t h
      obtain ⟨n15, en16, e14⟩ := cal_t e14
      refine e_callV (As := [.long j3, .int x8]) (st := [.long j3]) (a := a0) (ci := 0) false dX0_saturate_44 mw_X0_atOnce (Or.inl ⟨rfl, ml_X0_114⟩) im_X0_atOnce se_X0_atOnce (by decide) ga1 gs2 rfl (Nat.le_of_ble_eq_true rfl) en16 (s_X0_atOnce e14) ?_
      refine a_lor dX0_saturate_47 ?_
      refine a_lstore_n dX0_saturate_48 rfl (Nat.le_of_ble_eq_true rfl) (lv2 := [(3, .long (j3 ||| v12)), (0, .ref a0), (5, .int x5), (6, .long j6), (8, .int x8)]) rfl ?_
      refine a_iinc (v := (x8 + 1)) dX0_saturate_49 rfl (by first | rfl | decide) (Nat.le_of_ble_eq_true rfl) (lv2 := [(8, .int (x8 + 1)), (3, .long (j3 ||| v12)), (0, .ref a0), (5, .int x5), (6, .long j6)]) rfl ?_
      refine a_goto 18 dX0_saturate_52 (by decide) ?_
      exact a_lv (lv2 := [(0, .ref a0), (3, .long (j3 ||| v12)), (5, .int x5), (6, .long j6), (8, .int (x8 + 1))]) (fa_cons rfl (fa_cons rfl (fa_cons rfl (fa_cons rfl (fa_cons rfl fa_nil))))) (hJ _ _ _ h)
set_option maxHeartbeats 4000000 in
set_option maxRecDepth 100000 in
noncomputable def st_X0_saturate (n : Nat) (s : Sg) : Option (Sg ⊕ (Int64 × Mem)) := if s.1 = 0 then vR s.2.1 none (fun a0 t => vJ t none (fun j1 t => vE t none (T_X0_saturate_0 (fun c l M => some (.inl (c, l, M))) (fun v M => some (.inr (v, M))) none n a0 j1 s.2.2))) else if s.1 = 5 then vR s.2.1 none (fun a0 t => vJ t none (fun j3 t => vI t none (fun x5 t => vE t none (T_X0_saturate_5 (fun c l M => some (.inl (c, l, M))) (fun v M => some (.inr (v, M))) none n a0 j3 x5 s.2.2)))) else if s.1 = 18 then vR s.2.1 none (fun a0 t => vJ t none (fun j3 t => vI t none (fun x5 t => vJ t none (fun j6 t => vI t none (fun x8 t => vE t none (T_X0_saturate_18 (fun c l M => some (.inl (c, l, M))) (fun v M => some (.inr (v, M))) none n a0 j3 x5 j6 x8 s.2.2)))))) else none
noncomputable abbrev g_X0_saturate_0 (n : Nat) (a0 : Nat) (j1 : Int64) (M : Mem) : Option (Int64 × Mem) := lp (st_X0_saturate n) (0, [.ref a0, .long j1], M)
set_option maxHeartbeats 4000000 in
set_option maxRecDepth 100000 in
theorem ge_X0_saturate_0 (n : Nat) (a0 : Nat) (j1 : Int64) (M : Mem) : g_X0_saturate_0 n a0 j1 M = T_X0_saturate_0 (fun c l M => lp (st_X0_saturate n) (c, l, M)) (fun v M => some (v, M)) none n a0 j1 M := (lp_eq _ _).trans (n_X0_saturate_0 (lpK (st_X0_saturate n)) (fun c l M => some (.inl (c, l, M))) (fun v M => some (.inr (v, M))) none n a0 j1 M)
noncomputable abbrev g_X0_saturate_5 (n : Nat) (a0 : Nat) (j3 : Int64) (x5 : Int32) (M : Mem) : Option (Int64 × Mem) := lp (st_X0_saturate n) (5, [.ref a0, .long j3, .int x5], M)
set_option maxHeartbeats 4000000 in
set_option maxRecDepth 100000 in
theorem ge_X0_saturate_5 (n : Nat) (a0 : Nat) (j3 : Int64) (x5 : Int32) (M : Mem) : g_X0_saturate_5 n a0 j3 x5 M = T_X0_saturate_5 (fun c l M => lp (st_X0_saturate n) (c, l, M)) (fun v M => some (v, M)) none n a0 j3 x5 M := (lp_eq _ _).trans (n_X0_saturate_5 (lpK (st_X0_saturate n)) (fun c l M => some (.inl (c, l, M))) (fun v M => some (.inr (v, M))) none n a0 j3 x5 M)
noncomputable abbrev g_X0_saturate_18 (n : Nat) (a0 : Nat) (j3 : Int64) (x5 : Int32) (j6 : Int64) (x8 : Int32) (M : Mem) : Option (Int64 × Mem) := lp (st_X0_saturate n) (18, [.ref a0, .long j3, .int x5, .long j6, .int x8], M)
set_option maxHeartbeats 4000000 in
set_option maxRecDepth 100000 in
theorem ge_X0_saturate_18 (n : Nat) (a0 : Nat) (j3 : Int64) (x5 : Int32) (j6 : Int64) (x8 : Int32) (M : Mem) : g_X0_saturate_18 n a0 j3 x5 j6 x8 M = T_X0_saturate_18 (fun c l M => lp (st_X0_saturate n) (c, l, M)) (fun v M => some (v, M)) none n a0 j3 x5 j6 x8 M := (lp_eq _ _).trans (n_X0_saturate_18 (lpK (st_X0_saturate n)) (fun c l M => some (.inl (c, l, M))) (fun v M => some (.inr (v, M))) none n a0 j3 x5 j6 x8 M)
noncomputable def b_X0_saturate (n : Nat) (a0 : Nat) (j1 : Int64) (M : Mem) : Option (Int64 × Mem) := g_X0_saturate_0 n a0 j1 M
set_option maxHeartbeats 4000000 in
set_option maxRecDepth 100000 in
theorem sb_X0_saturate {X : Nat × (Nat → Int32)} {al : Bool} {n : Nat} {a0 : Nat} {j1 : Int64} {M : Mem} {v : Int64} {M1 : Mem} (h : b_X0_saturate n a0 j1 M = some (v, M1)) : AE yX0_saturate cX0_saturate 9 (some .long) al n X [.ref a0, .long j1] M (some (.long v)) M1 := by
  refine AM.of false (by decide +kernel) (by intro h; cases h) (Nat.le_of_ble_eq_true rfl) ?_
  refine lp_snd (P := fun s r => PW_X0_saturate X al n (fun v M2 => v = (some (.long r.1)) ∧ M2 = r.2) s.1 s.2.1 s.2.2) ?_ h
  clear h
  rintro ⟨c, l, M⟩ r h
  unfold st_X0_saturate at h
  rcases ite_p h with ⟨e, h⟩ | ⟨e, h⟩
  · replace e : c = 0 := e
    subst e
    obtain ⟨a0, tt0, e, h⟩ := vR_p id h
    replace e : l = _ := e
    subst e
    obtain ⟨j1, tt1, e, h⟩ := vJ_p id h
    replace e : tt0 = _ := e
    subst e
    obtain ⟨e, h⟩ := vE_p id h
    replace e : tt1 = [] := e
    subst e
    exact w_X0_saturate_0 (J := fun c l M => PW_X0_saturate X al n (fun v M2 => v = (some (.long r.1)) ∧ M2 = r.2) c l M) (R := fun v M => (v, M) = r) (fun _ _ _ h => h) (fun v M h => by cases h; exact ⟨rfl, rfl⟩) ((n_X0_saturate_0 (lpP (fun (s : Sg) (r : Int64 × Mem) => PW_X0_saturate X al n (fun v M2 => v = (some (.long r.1)) ∧ M2 = r.2) s.1 s.2.1 s.2.2) r) (fun c l M => some (.inl (c, l, M))) (fun v M => some (.inr (v, M))) none n a0 j1 M).mp h)
  rcases ite_p h with ⟨e, h⟩ | ⟨e, h⟩
  · replace e : c = 5 := e
    subst e
    obtain ⟨a0, tt0, e, h⟩ := vR_p id h
    replace e : l = _ := e
    subst e
    obtain ⟨j3, tt1, e, h⟩ := vJ_p id h
    replace e : tt0 = _ := e
    subst e
    obtain ⟨x5, tt2, e, h⟩ := vI_p id h
    replace e : tt1 = _ := e
    subst e
    obtain ⟨e, h⟩ := vE_p id h
    replace e : tt2 = [] := e
    subst e
    exact w_X0_saturate_5 (J := fun c l M => PW_X0_saturate X al n (fun v M2 => v = (some (.long r.1)) ∧ M2 = r.2) c l M) (R := fun v M => (v, M) = r) (fun _ _ _ h => h) (fun v M h => by cases h; exact ⟨rfl, rfl⟩) ((n_X0_saturate_5 (lpP (fun (s : Sg) (r : Int64 × Mem) => PW_X0_saturate X al n (fun v M2 => v = (some (.long r.1)) ∧ M2 = r.2) s.1 s.2.1 s.2.2) r) (fun c l M => some (.inl (c, l, M))) (fun v M => some (.inr (v, M))) none n a0 j3 x5 M).mp h)
  rcases ite_p h with ⟨e, h⟩ | ⟨e, h⟩
  · replace e : c = 18 := e
    subst e
    obtain ⟨a0, tt0, e, h⟩ := vR_p id h
    replace e : l = _ := e
    subst e
    obtain ⟨j3, tt1, e, h⟩ := vJ_p id h
    replace e : tt0 = _ := e
    subst e
    obtain ⟨x5, tt2, e, h⟩ := vI_p id h
    replace e : tt1 = _ := e
    subst e
    obtain ⟨j6, tt3, e, h⟩ := vJ_p id h
    replace e : tt2 = _ := e
    subst e
    obtain ⟨x8, tt4, e, h⟩ := vI_p id h
    replace e : tt3 = _ := e
    subst e
    obtain ⟨e, h⟩ := vE_p id h
    replace e : tt4 = [] := e
    subst e
    exact w_X0_saturate_18 (J := fun c l M => PW_X0_saturate X al n (fun v M2 => v = (some (.long r.1)) ∧ M2 = r.2) c l M) (R := fun v M => (v, M) = r) (fun _ _ _ h => h) (fun v M h => by cases h; exact ⟨rfl, rfl⟩) ((n_X0_saturate_18 (lpP (fun (s : Sg) (r : Int64 × Mem) => PW_X0_saturate X al n (fun v M2 => v = (some (.long r.1)) ∧ M2 = r.2) s.1 s.2.1 s.2.2) r) (fun c l M => some (.inl (c, l, M))) (fun v M => some (.inr (v, M))) none n a0 j3 x5 j6 x8 M).mp h)
  · exact h.elim

noncomputable abbrev f_X0_saturate := b_X0_saturate
theorem s_X0_saturate {X : Nat × (Nat → Int32)} {al : Bool} {n : Nat} {a0 : Nat} {j1 : Int64} {M : Mem} {v : Int64} {M1 : Mem} (h : f_X0_saturate n a0 j1 M = some (v, M1)) : AE yX0_saturate cX0_saturate 9 (some .long) al n X [.ref a0, .long j1] M (some (.long v)) M1 := sb_X0_saturate h
def ix_X0_memoSpot (c : Nat) : List Nat := if c = 0 then [0, 1] else if c = 20 then [0, 1, 5, 6] else []
def PW_X0_memoSpot (X : Nat × (Nat → Int32)) (al : Bool) (n : Nat) (Q : Option Value → Mem → Prop) (c : Nat) (l : List Value) (M : Mem) : Prop := AW X (RX0, cX0_memoSpot, 7, (some .int), false, al, n) 0 0 c (List.zip (ix_X0_memoSpot c) l) (l.drop (ix_X0_memoSpot c).length) M Q
set_option maxHeartbeats 4000000 in
set_option maxRecDepth 100000 in
noncomputable def T_X0_memoSpot_0.{u} {α : Sort u} (J : Nat → List Value → Mem → α) (R : Int32 → Mem → α) (N : α) (n : Nat) (a0 : Nat) (j1 : Int64) (M : Mem) : α := J 20 [.ref a0, .long j1, .int ((Int64.toInt32 (lushr (j1 * (-7046029254386353131)) 40)) &&& 8191), .int 0] M
set_option maxHeartbeats 4000000 in
set_option maxRecDepth 100000 in
theorem n_X0_memoSpot_0.{u, v} {α : Sort u} {β : Sort v} (h : α → β) (J : Nat → List Value → Mem → α) (R : Int32 → Mem → α) (N : α) (n : Nat) (a0 : Nat) (j1 : Int64) (M : Mem) : h (T_X0_memoSpot_0 J R N n a0 j1 M) = T_X0_memoSpot_0 (fun c l M => h (J c l M)) (fun v M => h (R v M)) (h N) n a0 j1 M := by
  simp only [T_X0_memoSpot_0, nat_ite h, nat_gd h, nat_bnd h, nat_bnd2 h]
set_option maxHeartbeats 4000000 in
set_option maxRecDepth 100000 in
theorem w_X0_memoSpot_0 {X : Nat × (Nat → Int32)} {al : Bool} {n : Nat} {Q : Option Value → Mem → Prop} {J : Nat → List Value → Mem → Prop} (hJ : ∀ c l M, J c l M → PW_X0_memoSpot X al n Q c l M) {R : Int32 → Mem → Prop} (hR : ∀ v M, R v M → Q (some (.int v)) M) {a0 : Nat} {j1 : Int64} {M : Mem} (h : T_X0_memoSpot_0 J R False n a0 j1 M) : AW X (RX0, cX0_memoSpot, 7, (some .int), false, al, n) 0 0 0 [(0, .ref a0), (1, .long j1)] [] M Q := by
  unfold T_X0_memoSpot_0 at h
  refine a_lload_n dX0_memoSpot_0 rfl rfl ?_
  refine a_ldc2 dX0_memoSpot_1 co_X0_117 ?_
  refine a_lmul dX0_memoSpot_4 ?_
  refine a_lstore_n dX0_memoSpot_5 rfl (Nat.le_of_ble_eq_true rfl) (lv2 := [(3, .long (j1 * (-7046029254386353131))), (0, .ref a0), (1, .long j1)]) rfl ?_
  refine a_lload_n dX0_memoSpot_6 rfl rfl ?_
  refine a_bipush (v := 40) dX0_memoSpot_7 (by decide) ?_
  refine a_lushr dX0_memoSpot_9 ?_
  refine a_l2i dX0_memoSpot_10 ?_
  refine a_sipush (v := 8191) dX0_memoSpot_11 (by decide) ?_
  refine a_iand dX0_memoSpot_14 ?_
  refine a_istore dX0_memoSpot_15 (Nat.le_of_ble_eq_true rfl) (lv2 := [(5, .int ((Int64.toInt32 (lushr (j1 * (-7046029254386353131)) 40)) &&& 8191)), (3, .long (j1 * (-7046029254386353131))), (0, .ref a0), (1, .long j1)]) rfl ?_
  refine a_iconst (v := 0) dX0_memoSpot_17 (by decide) ?_
  refine a_istore dX0_memoSpot_18 (Nat.le_of_ble_eq_true rfl) (lv2 := [(6, .int 0), (5, .int ((Int64.toInt32 (lushr (j1 * (-7046029254386353131)) 40)) &&& 8191)), (3, .long (j1 * (-7046029254386353131))), (0, .ref a0), (1, .long j1)]) rfl ?_
  exact a_lv (lv2 := [(0, .ref a0), (1, .long j1), (5, .int ((Int64.toInt32 (lushr (j1 * (-7046029254386353131)) 40)) &&& 8191)), (6, .int 0)]) (fa_cons rfl (fa_cons rfl (fa_cons rfl (fa_cons rfl fa_nil)))) (hJ _ _ _ h)
set_option maxHeartbeats 4000000 in
set_option maxRecDepth 100000 in
noncomputable def T_X0_memoSpot_20.{u} {α : Sort u} (J : Nat → List Value → Mem → α) (R : Int32 → Mem → α) (N : α) (n : Nat) (a0 : Nat) (j1 : Int64) (x5 : Int32) (x6 : Int32) (M : Mem) : α := if 8192 ≤ x6 then R (-1) M else gd (fO M a0 0) N (bnd (M.2.2.2.2 a0 4) N (fun r4 => gd (fA M r4 2 x5) N (if (lg_cmp (M.2.2.2.1 r4 (x5.toNatClampNeg)) 0) = 0 then R x5 M else if (lg_cmp (M.2.2.2.1 r4 (x5.toNatClampNeg)) (j1 + 1)) = 0 then R x5 M else J 20 [.ref a0, .long j1, .int ((x5 + 1) &&& 8191), .int (x6 + 1)] M)))
set_option maxHeartbeats 4000000 in
set_option maxRecDepth 100000 in
theorem n_X0_memoSpot_20.{u, v} {α : Sort u} {β : Sort v} (h : α → β) (J : Nat → List Value → Mem → α) (R : Int32 → Mem → α) (N : α) (n : Nat) (a0 : Nat) (j1 : Int64) (x5 : Int32) (x6 : Int32) (M : Mem) : h (T_X0_memoSpot_20 J R N n a0 j1 x5 x6 M) = T_X0_memoSpot_20 (fun c l M => h (J c l M)) (fun v M => h (R v M)) (h N) n a0 j1 x5 x6 M := by
  simp only [T_X0_memoSpot_20, nat_ite h, nat_gd h, nat_bnd h, nat_bnd2 h]
set_option maxHeartbeats 4000000 in
set_option maxRecDepth 100000 in
theorem w_X0_memoSpot_20 {X : Nat × (Nat → Int32)} {al : Bool} {n : Nat} {Q : Option Value → Mem → Prop} {J : Nat → List Value → Mem → Prop} (hJ : ∀ c l M, J c l M → PW_X0_memoSpot X al n Q c l M) {R : Int32 → Mem → Prop} (hR : ∀ v M, R v M → Q (some (.int v)) M) {a0 : Nat} {j1 : Int64} {x5 : Int32} {x6 : Int32} {M : Mem} (h : T_X0_memoSpot_20 J R False n a0 j1 x5 x6 M) : AW X (RX0, cX0_memoSpot, 7, (some .int), false, al, n) 0 0 20 [(0, .ref a0), (1, .long j1), (5, .int x5), (6, .int x6)] [] M Q := by
  unfold T_X0_memoSpot_20 at h
  refine a_iload dX0_memoSpot_20 rfl ?_
  refine a_sipush (v := 8192) dX0_memoSpot_22 (by decide) ?_
  refine a_icmp_ge 73 dX0_memoSpot_25 (by decide) (fun c1 => ?_) (fun c1 => ?_)
  · replace h := ite_t c1 h
    refine a_iconst (v := -1) dX0_memoSpot_73 (by decide) ?_
    exact a_iret dX0_memoSpot_74 rfl (hR _ _ h)
  · replace h := ite_f c1 h
    refine a_aload_n dX0_memoSpot_28 rfl rfl ?_
    obtain ⟨⟨ga2, gs3⟩, h⟩ := gd_t h
    obtain ⟨r4, e5, h⟩ := bnd_t h
    refine a_get (v := .ref r4) dX0_memoSpot_29 fl_0_22 ga2 gs3 (gvR e5 rfl) ?_
    refine a_iload dX0_memoSpot_32 rfl ?_
    obtain ⟨⟨ga6, gn7, gs8, gi9⟩, h⟩ := gd_t h
    refine a_laload dX0_memoSpot_34 ga6 gs8 gi9 ?_
    refine a_lconst (v := 0) dX0_memoSpot_35 (by decide) ?_
    refine a_lcmp dX0_memoSpot_36 ?_
    refine a_if_eq 54 dX0_memoSpot_37 (by decide) (fun c10 => ?_) (fun c10 => ?_)
    · replace h := ite_t c10 h
      refine a_iload dX0_memoSpot_54 rfl ?_
      exact a_iret dX0_memoSpot_56 rfl (hR _ _ h)
    · replace h := ite_f c10 h
      refine a_aload_n dX0_memoSpot_40 rfl rfl ?_
      refine a_get (v := .ref r4) dX0_memoSpot_41 fl_0_22 ga2 gs3 (gvR e5 rfl) ?_
      refine a_iload dX0_memoSpot_44 rfl ?_
      refine a_laload dX0_memoSpot_46 ga6 gs8 gi9 ?_
      refine a_lload_n dX0_memoSpot_47 rfl rfl ?_
      refine a_lconst (v := 1) dX0_memoSpot_48 (by decide) ?_
      refine a_ladd dX0_memoSpot_49 ?_
      refine a_lcmp dX0_memoSpot_50 ?_
      refine a_if_ne 57 dX0_memoSpot_51 (by decide) (fun c11 => ?_) (fun c11 => ?_)
      · replace h := ite_f c11 h
        refine a_iload dX0_memoSpot_57 rfl ?_
        refine a_iconst (v := 1) dX0_memoSpot_59 (by decide) ?_
        refine a_iadd dX0_memoSpot_60 ?_
        refine a_sipush (v := 8191) dX0_memoSpot_61 (by decide) ?_
        refine a_iand dX0_memoSpot_64 ?_
        refine a_istore dX0_memoSpot_65 (Nat.le_of_ble_eq_true rfl) (lv2 := [(5, .int ((x5 + 1) &&& 8191)), (0, .ref a0), (1, .long j1), (6, .int x6)]) rfl ?_
        refine a_iinc (v := (x6 + 1)) dX0_memoSpot_67 rfl (by first | rfl | decide) (Nat.le_of_ble_eq_true rfl) (lv2 := [(6, .int (x6 + 1)), (5, .int ((x5 + 1) &&& 8191)), (0, .ref a0), (1, .long j1)]) rfl ?_
        refine a_goto 20 dX0_memoSpot_70 (by decide) ?_
        exact a_lv (lv2 := [(0, .ref a0), (1, .long j1), (5, .int ((x5 + 1) &&& 8191)), (6, .int (x6 + 1))]) (fa_cons rfl (fa_cons rfl (fa_cons rfl (fa_cons rfl fa_nil)))) (hJ _ _ _ h)
      · replace h := ite_t c11 h
        refine a_iload dX0_memoSpot_54 rfl ?_
        exact a_iret dX0_memoSpot_56 rfl (hR _ _ h)
set_option maxHeartbeats 4000000 in
set_option maxRecDepth 100000 in
noncomputable def st_X0_memoSpot (n : Nat) (s : Sg) : Option (Sg ⊕ (Int32 × Mem)) := if s.1 = 0 then vR s.2.1 none (fun a0 t => vJ t none (fun j1 t => vE t none (T_X0_memoSpot_0 (fun c l M => some (.inl (c, l, M))) (fun v M => some (.inr (v, M))) none n a0 j1 s.2.2))) else if s.1 = 20 then vR s.2.1 none (fun a0 t => vJ t none (fun j1 t => vI t none (fun x5 t => vI t none (fun x6 t => vE t none (T_X0_memoSpot_20 (fun c l M => some (.inl (c, l, M))) (fun v M => some (.inr (v, M))) none n a0 j1 x5 x6 s.2.2))))) else none
noncomputable abbrev g_X0_memoSpot_0 (n : Nat) (a0 : Nat) (j1 : Int64) (M : Mem) : Option (Int32 × Mem) := lp (st_X0_memoSpot n) (0, [.ref a0, .long j1], M)
set_option maxHeartbeats 4000000 in
set_option maxRecDepth 100000 in
theorem ge_X0_memoSpot_0 (n : Nat) (a0 : Nat) (j1 : Int64) (M : Mem) : g_X0_memoSpot_0 n a0 j1 M = T_X0_memoSpot_0 (fun c l M => lp (st_X0_memoSpot n) (c, l, M)) (fun v M => some (v, M)) none n a0 j1 M := (lp_eq _ _).trans (n_X0_memoSpot_0 (lpK (st_X0_memoSpot n)) (fun c l M => some (.inl (c, l, M))) (fun v M => some (.inr (v, M))) none n a0 j1 M)
noncomputable abbrev g_X0_memoSpot_20 (n : Nat) (a0 : Nat) (j1 : Int64) (x5 : Int32) (x6 : Int32) (M : Mem) : Option (Int32 × Mem) := lp (st_X0_memoSpot n) (20, [.ref a0, .long j1, .int x5, .int x6], M)
set_option maxHeartbeats 4000000 in
set_option maxRecDepth 100000 in
theorem ge_X0_memoSpot_20 (n : Nat) (a0 : Nat) (j1 : Int64) (x5 : Int32) (x6 : Int32) (M : Mem) : g_X0_memoSpot_20 n a0 j1 x5 x6 M = T_X0_memoSpot_20 (fun c l M => lp (st_X0_memoSpot n) (c, l, M)) (fun v M => some (v, M)) none n a0 j1 x5 x6 M := (lp_eq _ _).trans (n_X0_memoSpot_20 (lpK (st_X0_memoSpot n)) (fun c l M => some (.inl (c, l, M))) (fun v M => some (.inr (v, M))) none n a0 j1 x5 x6 M)
noncomputable def b_X0_memoSpot (n : Nat) (a0 : Nat) (j1 : Int64) (M : Mem) : Option (Int32 × Mem) := g_X0_memoSpot_0 n a0 j1 M
set_option maxHeartbeats 4000000 in
set_option maxRecDepth 100000 in
theorem sb_X0_memoSpot {X : Nat × (Nat → Int32)} {al : Bool} {n : Nat} {a0 : Nat} {j1 : Int64} {M : Mem} {v : Int32} {M1 : Mem} (h : b_X0_memoSpot n a0 j1 M = some (v, M1)) : AE yX0_memoSpot cX0_memoSpot 7 (some .int) al n X [.ref a0, .long j1] M (some (.int v)) M1 := by
  refine AM.of false (by decide +kernel) (by intro h; cases h) (Nat.le_of_ble_eq_true rfl) ?_
  refine lp_snd (P := fun s r => PW_X0_memoSpot X al n (fun v M2 => v = (some (.int r.1)) ∧ M2 = r.2) s.1 s.2.1 s.2.2) ?_ h
  clear h
  rintro ⟨c, l, M⟩ r h
  unfold st_X0_memoSpot at h
  rcases ite_p h with ⟨e, h⟩ | ⟨e, h⟩
  · replace e : c = 0 := e
    subst e
    obtain ⟨a0, tt0, e, h⟩ := vR_p id h
    replace e : l = _ := e
    subst e
    obtain ⟨j1, tt1, e, h⟩ := vJ_p id h
    replace e : tt0 = _ := e
    subst e
    obtain ⟨e, h⟩ := vE_p id h
    replace e : tt1 = [] := e
    subst e
    exact w_X0_memoSpot_0 (J := fun c l M => PW_X0_memoSpot X al n (fun v M2 => v = (some (.int r.1)) ∧ M2 = r.2) c l M) (R := fun v M => (v, M) = r) (fun _ _ _ h => h) (fun v M h => by cases h; exact ⟨rfl, rfl⟩) ((n_X0_memoSpot_0 (lpP (fun (s : Sg) (r : Int32 × Mem) => PW_X0_memoSpot X al n (fun v M2 => v = (some (.int r.1)) ∧ M2 = r.2) s.1 s.2.1 s.2.2) r) (fun c l M => some (.inl (c, l, M))) (fun v M => some (.inr (v, M))) none n a0 j1 M).mp h)
  rcases ite_p h with ⟨e, h⟩ | ⟨e, h⟩
  · replace e : c = 20 := e
    subst e
    obtain ⟨a0, tt0, e, h⟩ := vR_p id h
    replace e : l = _ := e
    subst e
    obtain ⟨j1, tt1, e, h⟩ := vJ_p id h
    replace e : tt0 = _ := e
    subst e
    obtain ⟨x5, tt2, e, h⟩ := vI_p id h
    replace e : tt1 = _ := e
    subst e
    obtain ⟨x6, tt3, e, h⟩ := vI_p id h
    replace e : tt2 = _ := e
    subst e
    obtain ⟨e, h⟩ := vE_p id h
    replace e : tt3 = [] := e
    subst e
    exact w_X0_memoSpot_20 (J := fun c l M => PW_X0_memoSpot X al n (fun v M2 => v = (some (.int r.1)) ∧ M2 = r.2) c l M) (R := fun v M => (v, M) = r) (fun _ _ _ h => h) (fun v M h => by cases h; exact ⟨rfl, rfl⟩) ((n_X0_memoSpot_20 (lpP (fun (s : Sg) (r : Int32 × Mem) => PW_X0_memoSpot X al n (fun v M2 => v = (some (.int r.1)) ∧ M2 = r.2) s.1 s.2.1 s.2.2) r) (fun c l M => some (.inl (c, l, M))) (fun v M => some (.inr (v, M))) none n a0 j1 x5 x6 M).mp h)
  · exact h.elim

noncomputable abbrev f_X0_memoSpot := b_X0_memoSpot
theorem s_X0_memoSpot {X : Nat × (Nat → Int32)} {al : Bool} {n : Nat} {a0 : Nat} {j1 : Int64} {M : Mem} {v : Int32} {M1 : Mem} (h : f_X0_memoSpot n a0 j1 M = some (v, M1)) : AE yX0_memoSpot cX0_memoSpot 7 (some .int) al n X [.ref a0, .long j1] M (some (.int v)) M1 := sb_X0_memoSpot h
def ix_X0_openOr (c : Nat) : List Nat := if c = 0 then [0, 1] else if c = 2 then [0, 1, 3] else []
def PW_X0_openOr (X : Nat × (Nat → Int32)) (al : Bool) (n : Nat) (Q : Option Value → Mem → Prop) (c : Nat) (l : List Value) (M : Mem) : Prop := AW X (RX0, cX0_openOr, 4, (some .int), false, al, n) 0 0 c (List.zip (ix_X0_openOr c) l) (l.drop (ix_X0_openOr c).length) M Q
set_option maxHeartbeats 4000000 in
set_option maxRecDepth 100000 in
noncomputable def T_X0_openOr_0.{u} {α : Sort u} (J : Nat → List Value → Mem → α) (R : Int32 → Mem → α) (N : α) (n : Nat) (a0 : Nat) (j1 : Int64) (M : Mem) : α := J 2 [.ref a0, .long j1, .int 0] M
set_option maxHeartbeats 4000000 in
set_option maxRecDepth 100000 in
theorem n_X0_openOr_0.{u, v} {α : Sort u} {β : Sort v} (h : α → β) (J : Nat → List Value → Mem → α) (R : Int32 → Mem → α) (N : α) (n : Nat) (a0 : Nat) (j1 : Int64) (M : Mem) : h (T_X0_openOr_0 J R N n a0 j1 M) = T_X0_openOr_0 (fun c l M => h (J c l M)) (fun v M => h (R v M)) (h N) n a0 j1 M := by
  simp only [T_X0_openOr_0, nat_ite h, nat_gd h, nat_bnd h, nat_bnd2 h]
set_option maxHeartbeats 4000000 in
set_option maxRecDepth 100000 in
theorem w_X0_openOr_0 {X : Nat × (Nat → Int32)} {al : Bool} {n : Nat} {Q : Option Value → Mem → Prop} {J : Nat → List Value → Mem → Prop} (hJ : ∀ c l M, J c l M → PW_X0_openOr X al n Q c l M) {R : Int32 → Mem → Prop} (hR : ∀ v M, R v M → Q (some (.int v)) M) {a0 : Nat} {j1 : Int64} {M : Mem} (h : T_X0_openOr_0 J R False n a0 j1 M) : AW X (RX0, cX0_openOr, 4, (some .int), false, al, n) 0 0 0 [(0, .ref a0), (1, .long j1)] [] M Q := by
  unfold T_X0_openOr_0 at h
  refine a_iconst (v := 0) dX0_openOr_0 (by decide) ?_
  refine a_istore_n dX0_openOr_1 rfl (Nat.le_of_ble_eq_true rfl) (lv2 := [(3, .int 0), (0, .ref a0), (1, .long j1)]) rfl ?_
  exact a_lv (lv2 := [(0, .ref a0), (1, .long j1), (3, .int 0)]) (fa_cons rfl (fa_cons rfl (fa_cons rfl fa_nil))) (hJ _ _ _ h)
set_option maxHeartbeats 4000000 in
set_option maxRecDepth 100000 in
noncomputable def T_X0_openOr_2.{u} {α : Sort u} (J : Nat → List Value → Mem → α) (R : Int32 → Mem → α) (N : α) (n : Nat) (a0 : Nat) (j1 : Int64) (x3 : Int32) (M : Mem) : α := gd (fO M a0 0) N (if (M.2.2.1 a0 7) ≤ x3 then R (-1) M else bnd (M.2.2.2.2 a0 1) N (fun r4 => gd (fA M r4 1 x3) N (if (M.2.2.1 r4 (x3.toNatClampNeg)) = 11 then if (lg_cmp ((lushr j1 x3) &&& 1) 0) = 0 then J 2 [.ref a0, .long j1, .int (x3 + 1)] M else bnd (M.2.2.2.2 a0 2) N (fun r12 => gd (fA M r12 2 x3) N (bnd (M.2.2.2.2 a0 3) N (fun r18 => gd (fA M r18 2 x3) N (if (lg_cmp (j1 &&& ((M.2.2.2.1 r12 (x3.toNatClampNeg)) ||| (M.2.2.2.1 r18 (x3.toNatClampNeg)))) 0) = 0 then R x3 M else J 2 [.ref a0, .long j1, .int (x3 + 1)] M)))) else J 2 [.ref a0, .long j1, .int (x3 + 1)] M)))
set_option maxHeartbeats 4000000 in
set_option maxRecDepth 100000 in
theorem n_X0_openOr_2.{u, v} {α : Sort u} {β : Sort v} (h : α → β) (J : Nat → List Value → Mem → α) (R : Int32 → Mem → α) (N : α) (n : Nat) (a0 : Nat) (j1 : Int64) (x3 : Int32) (M : Mem) : h (T_X0_openOr_2 J R N n a0 j1 x3 M) = T_X0_openOr_2 (fun c l M => h (J c l M)) (fun v M => h (R v M)) (h N) n a0 j1 x3 M := by
  simp only [T_X0_openOr_2, nat_ite h, nat_gd h, nat_bnd h, nat_bnd2 h]
set_option maxHeartbeats 4000000 in
set_option maxRecDepth 100000 in
theorem w_X0_openOr_2 {X : Nat × (Nat → Int32)} {al : Bool} {n : Nat} {Q : Option Value → Mem → Prop} {J : Nat → List Value → Mem → Prop} (hJ : ∀ c l M, J c l M → PW_X0_openOr X al n Q c l M) {R : Int32 → Mem → Prop} (hR : ∀ v M, R v M → Q (some (.int v)) M) {a0 : Nat} {j1 : Int64} {x3 : Int32} {M : Mem} (h : T_X0_openOr_2 J R False n a0 j1 x3 M) : AW X (RX0, cX0_openOr, 4, (some .int), false, al, n) 0 0 2 [(0, .ref a0), (1, .long j1), (3, .int x3)] [] M Q := by
  unfold T_X0_openOr_2 at h
  refine a_iload_n dX0_openOr_2 rfl rfl ?_
  refine a_aload_n dX0_openOr_3 rfl rfl ?_
  obtain ⟨⟨ga1, gs2⟩, h⟩ := gd_t h
  refine a_get (v := .int (M.2.2.1 a0 7)) dX0_openOr_4 fl_0_79 ga1 gs2 rfl ?_
  refine a_icmp_ge 59 dX0_openOr_7 (by decide) (fun c3 => ?_) (fun c3 => ?_)
  · replace h := ite_t c3 h
    refine a_iconst (v := -1) dX0_openOr_59 (by decide) ?_
    exact a_iret dX0_openOr_60 rfl (hR _ _ h)
  · replace h := ite_f c3 h
    refine a_aload_n dX0_openOr_10 rfl rfl ?_
    obtain ⟨r4, e5, h⟩ := bnd_t h
    refine a_get (v := .ref r4) dX0_openOr_11 fl_0_9 ga1 gs2 (gvR e5 rfl) ?_
    refine a_iload_n dX0_openOr_14 rfl rfl ?_
    obtain ⟨⟨ga6, gn7, gs8, gi9⟩, h⟩ := gd_t h
    refine a_iaload dX0_openOr_15 ga6 gs8 gi9 ?_
    refine a_bipush (v := 11) dX0_openOr_16 (by decide) ?_
    refine a_icmp_ne 53 dX0_openOr_18 (by decide) (fun c10 => ?_) (fun c10 => ?_)
    · replace h := ite_f c10 h
      refine a_iinc (v := (x3 + 1)) dX0_openOr_53 rfl (by first | rfl | decide) (Nat.le_of_ble_eq_true rfl) (lv2 := [(3, .int (x3 + 1)), (0, .ref a0), (1, .long j1)]) rfl ?_
      refine a_goto 2 dX0_openOr_56 (by decide) ?_
      exact a_lv (lv2 := [(0, .ref a0), (1, .long j1), (3, .int (x3 + 1))]) (fa_cons rfl (fa_cons rfl (fa_cons rfl fa_nil))) (hJ _ _ _ h)
    · replace h := ite_t c10 h
      refine a_lload_n dX0_openOr_21 rfl rfl ?_
      refine a_iload_n dX0_openOr_22 rfl rfl ?_
      refine a_lushr dX0_openOr_23 ?_
      refine a_lconst (v := 1) dX0_openOr_24 (by decide) ?_
      refine a_land dX0_openOr_25 ?_
      refine a_lconst (v := 0) dX0_openOr_26 (by decide) ?_
      refine a_lcmp dX0_openOr_27 ?_
      refine a_if_eq 53 dX0_openOr_28 (by decide) (fun c11 => ?_) (fun c11 => ?_)
      · replace h := ite_t c11 h
        refine a_iinc (v := (x3 + 1)) dX0_openOr_53 rfl (by first | rfl | decide) (Nat.le_of_ble_eq_true rfl) (lv2 := [(3, .int (x3 + 1)), (0, .ref a0), (1, .long j1)]) rfl ?_
        refine a_goto 2 dX0_openOr_56 (by decide) ?_
        exact a_lv (lv2 := [(0, .ref a0), (1, .long j1), (3, .int (x3 + 1))]) (fa_cons rfl (fa_cons rfl (fa_cons rfl fa_nil))) (hJ _ _ _ h)
      · replace h := ite_f c11 h
        refine a_lload_n dX0_openOr_31 rfl rfl ?_
        refine a_aload_n dX0_openOr_32 rfl rfl ?_
        obtain ⟨r12, e13, h⟩ := bnd_t h
        refine a_get (v := .ref r12) dX0_openOr_33 fl_0_15 ga1 gs2 (gvR e13 rfl) ?_
        refine a_iload_n dX0_openOr_36 rfl rfl ?_
        obtain ⟨⟨ga14, gn15, gs16, gi17⟩, h⟩ := gd_t h
        refine a_laload dX0_openOr_37 ga14 gs16 gi17 ?_
        refine a_aload_n dX0_openOr_38 rfl rfl ?_
        obtain ⟨r18, e19, h⟩ := bnd_t h
        refine a_get (v := .ref r18) dX0_openOr_39 fl_0_19 ga1 gs2 (gvR e19 rfl) ?_
        refine a_iload_n dX0_openOr_42 rfl rfl ?_
        obtain ⟨⟨ga20, gn21, gs22, gi23⟩, h⟩ := gd_t h
        refine a_laload dX0_openOr_43 ga20 gs22 gi23 ?_
        refine a_lor dX0_openOr_44 ?_
        refine a_land dX0_openOr_45 ?_
        refine a_lconst (v := 0) dX0_openOr_46 (by decide) ?_
        refine a_lcmp dX0_openOr_47 ?_
        refine a_if_ne 53 dX0_openOr_48 (by decide) (fun c24 => ?_) (fun c24 => ?_)
        · replace h := ite_f c24 h
          refine a_iinc (v := (x3 + 1)) dX0_openOr_53 rfl (by first | rfl | decide) (Nat.le_of_ble_eq_true rfl) (lv2 := [(3, .int (x3 + 1)), (0, .ref a0), (1, .long j1)]) rfl ?_
          refine a_goto 2 dX0_openOr_56 (by decide) ?_
          exact a_lv (lv2 := [(0, .ref a0), (1, .long j1), (3, .int (x3 + 1))]) (fa_cons rfl (fa_cons rfl (fa_cons rfl fa_nil))) (hJ _ _ _ h)
        · replace h := ite_t c24 h
          refine a_iload_n dX0_openOr_51 rfl rfl ?_
          exact a_iret dX0_openOr_52 rfl (hR _ _ h)
set_option maxHeartbeats 4000000 in
set_option maxRecDepth 100000 in
noncomputable def st_X0_openOr (n : Nat) (s : Sg) : Option (Sg ⊕ (Int32 × Mem)) := if s.1 = 0 then vR s.2.1 none (fun a0 t => vJ t none (fun j1 t => vE t none (T_X0_openOr_0 (fun c l M => some (.inl (c, l, M))) (fun v M => some (.inr (v, M))) none n a0 j1 s.2.2))) else if s.1 = 2 then vR s.2.1 none (fun a0 t => vJ t none (fun j1 t => vI t none (fun x3 t => vE t none (T_X0_openOr_2 (fun c l M => some (.inl (c, l, M))) (fun v M => some (.inr (v, M))) none n a0 j1 x3 s.2.2)))) else none
noncomputable abbrev g_X0_openOr_0 (n : Nat) (a0 : Nat) (j1 : Int64) (M : Mem) : Option (Int32 × Mem) := lp (st_X0_openOr n) (0, [.ref a0, .long j1], M)
set_option maxHeartbeats 4000000 in
set_option maxRecDepth 100000 in
theorem ge_X0_openOr_0 (n : Nat) (a0 : Nat) (j1 : Int64) (M : Mem) : g_X0_openOr_0 n a0 j1 M = T_X0_openOr_0 (fun c l M => lp (st_X0_openOr n) (c, l, M)) (fun v M => some (v, M)) none n a0 j1 M := (lp_eq _ _).trans (n_X0_openOr_0 (lpK (st_X0_openOr n)) (fun c l M => some (.inl (c, l, M))) (fun v M => some (.inr (v, M))) none n a0 j1 M)
noncomputable abbrev g_X0_openOr_2 (n : Nat) (a0 : Nat) (j1 : Int64) (x3 : Int32) (M : Mem) : Option (Int32 × Mem) := lp (st_X0_openOr n) (2, [.ref a0, .long j1, .int x3], M)
set_option maxHeartbeats 4000000 in
set_option maxRecDepth 100000 in
theorem ge_X0_openOr_2 (n : Nat) (a0 : Nat) (j1 : Int64) (x3 : Int32) (M : Mem) : g_X0_openOr_2 n a0 j1 x3 M = T_X0_openOr_2 (fun c l M => lp (st_X0_openOr n) (c, l, M)) (fun v M => some (v, M)) none n a0 j1 x3 M := (lp_eq _ _).trans (n_X0_openOr_2 (lpK (st_X0_openOr n)) (fun c l M => some (.inl (c, l, M))) (fun v M => some (.inr (v, M))) none n a0 j1 x3 M)
noncomputable def b_X0_openOr (n : Nat) (a0 : Nat) (j1 : Int64) (M : Mem) : Option (Int32 × Mem) := g_X0_openOr_0 n a0 j1 M
set_option maxHeartbeats 4000000 in
set_option maxRecDepth 100000 in
theorem sb_X0_openOr {X : Nat × (Nat → Int32)} {al : Bool} {n : Nat} {a0 : Nat} {j1 : Int64} {M : Mem} {v : Int32} {M1 : Mem} (h : b_X0_openOr n a0 j1 M = some (v, M1)) : AE yX0_openOr cX0_openOr 4 (some .int) al n X [.ref a0, .long j1] M (some (.int v)) M1 := by
  refine AM.of false (by decide +kernel) (by intro h; cases h) (Nat.le_of_ble_eq_true rfl) ?_
  refine lp_snd (P := fun s r => PW_X0_openOr X al n (fun v M2 => v = (some (.int r.1)) ∧ M2 = r.2) s.1 s.2.1 s.2.2) ?_ h
  clear h
  rintro ⟨c, l, M⟩ r h
  unfold st_X0_openOr at h
  rcases ite_p h with ⟨e, h⟩ | ⟨e, h⟩
  · replace e : c = 0 := e
    subst e
    obtain ⟨a0, tt0, e, h⟩ := vR_p id h
    replace e : l = _ := e
    subst e
    obtain ⟨j1, tt1, e, h⟩ := vJ_p id h
    replace e : tt0 = _ := e
    subst e
    obtain ⟨e, h⟩ := vE_p id h
    replace e : tt1 = [] := e
    subst e
    exact w_X0_openOr_0 (J := fun c l M => PW_X0_openOr X al n (fun v M2 => v = (some (.int r.1)) ∧ M2 = r.2) c l M) (R := fun v M => (v, M) = r) (fun _ _ _ h => h) (fun v M h => by cases h; exact ⟨rfl, rfl⟩) ((n_X0_openOr_0 (lpP (fun (s : Sg) (r : Int32 × Mem) => PW_X0_openOr X al n (fun v M2 => v = (some (.int r.1)) ∧ M2 = r.2) s.1 s.2.1 s.2.2) r) (fun c l M => some (.inl (c, l, M))) (fun v M => some (.inr (v, M))) none n a0 j1 M).mp h)
  rcases ite_p h with ⟨e, h⟩ | ⟨e, h⟩
  · replace e : c = 2 := e
    subst e
    obtain ⟨a0, tt0, e, h⟩ := vR_p id h
    replace e : l = _ := e
    subst e
    obtain ⟨j1, tt1, e, h⟩ := vJ_p id h
    replace e : tt0 = _ := e
    subst e
    obtain ⟨x3, tt2, e, h⟩ := vI_p id h
    replace e : tt1 = _ := e
    subst e
    obtain ⟨e, h⟩ := vE_p id h
    replace e : tt2 = [] := e
    subst e
    exact w_X0_openOr_2 (J := fun c l M => PW_X0_openOr X al n (fun v M2 => v = (some (.int r.1)) ∧ M2 = r.2) c l M) (R := fun v M => (v, M) = r) (fun _ _ _ h => h) (fun v M h => by cases h; exact ⟨rfl, rfl⟩) ((n_X0_openOr_2 (lpP (fun (s : Sg) (r : Int32 × Mem) => PW_X0_openOr X al n (fun v M2 => v = (some (.int r.1)) ∧ M2 = r.2) s.1 s.2.1 s.2.2) r) (fun c l M => some (.inl (c, l, M))) (fun v M => some (.inr (v, M))) none n a0 j1 x3 M).mp h)
  · exact h.elim

noncomputable abbrev f_X0_openOr := b_X0_openOr
theorem s_X0_openOr {X : Nat × (Nat → Int32)} {al : Bool} {n : Nat} {a0 : Nat} {j1 : Int64} {M : Mem} {v : Int32} {M1 : Mem} (h : f_X0_openOr n a0 j1 M = some (v, M1)) : AE yX0_openOr cX0_openOr 4 (some .int) al n X [.ref a0, .long j1] M (some (.int v)) M1 := sb_X0_openOr h
