/-! METHODS AS FUNCTIONS, written by wip/gen/shallow.py -/
def ix_X11_tidies (c : Nat) : List Nat := if c = 0 then [0] else if c = 20 then [0, 1] else if c = 43 then [0, 1] else if c = 77 then [0, 1] else if c = 84 then [0, 1, 2] else if c = 154 then [0, 1] else if c = 207 then [0, 1, 2] else if c = 259 then [0, 1, 2] else if c = 296 then [0, 2] else if c = 342 then [0, 2] else if c = 349 then [0, 2, 3] else if c = 432 then [0, 2] else []
def PW_X11_tidies (X : Nat × (Nat → Int32)) (al : Bool) (n : Nat) (Q : Option Value → Mem → Prop) (c : Nat) (l : List Value) (M : Mem) : Prop := AW X (RX11, cX11_tidies, 4, none, false, al, n) 0 0 c (List.zip (ix_X11_tidies c) l) (l.drop (ix_X11_tidies c).length) M Q
set_option maxHeartbeats 4000000 in
set_option maxRecDepth 100000 in
noncomputable def T_X11_tidies_0.{u} {α : Sort u} (J : Nat → List Value → Mem → α) (R : Unit → Mem → α) (N : α) (n : Nat) (a0 : Nat) (M : Mem) : α := gd (fO M a0 11) N (if (M.2.2.1 a0 8) = 0 then if 8192 ≤ (M.2.2.1 a0 7) then J 20 [.ref a0, .int 0] M else R () M else R () M)
set_option maxHeartbeats 4000000 in
set_option maxRecDepth 100000 in
theorem n_X11_tidies_0.{u, v} {α : Sort u} {β : Sort v} (h : α → β) (J : Nat → List Value → Mem → α) (R : Unit → Mem → α) (N : α) (n : Nat) (a0 : Nat) (M : Mem) : h (T_X11_tidies_0 J R N n a0 M) = T_X11_tidies_0 (fun c l M => h (J c l M)) (fun v M => h (R v M)) (h N) n a0 M := by
  simp only [T_X11_tidies_0, nat_ite h, nat_gd h, nat_bnd h, nat_bnd2 h]
set_option maxHeartbeats 4000000 in
set_option maxRecDepth 100000 in
theorem w_X11_tidies_0 {X : Nat × (Nat → Int32)} {al : Bool} {n : Nat} {Q : Option Value → Mem → Prop} {J : Nat → List Value → Mem → Prop} (hJ : ∀ c l M, J c l M → PW_X11_tidies X al n Q c l M) {R : Unit → Mem → Prop} (hR : ∀ v M, R v M → Q none M) {a0 : Nat} {M : Mem} (h : T_X11_tidies_0 J R False n a0 M) : AW X (RX11, cX11_tidies, 4, none, false, al, n) 0 0 0 [(0, .ref a0)] [] M Q := by
  unfold T_X11_tidies_0 at h
  refine a_aload_n dX11_tidies_0 rfl rfl ?_
  obtain ⟨⟨ga1, gs2⟩, h⟩ := gd_t h
  refine a_get (v := .int (M.2.2.1 a0 8)) dX11_tidies_1 fl_11_140 ga1 gs2 rfl ?_
  refine a_if_ne 17 dX11_tidies_4 (by decide) (fun c3 => ?_) (fun c3 => ?_)
  · replace h := ite_f c3 h
    exact a_vret dX11_tidies_17 rfl (hR _ _ h)
  · replace h := ite_t c3 h
    refine a_aload_n dX11_tidies_7 rfl rfl ?_
    refine a_get (v := .int (M.2.2.1 a0 7)) dX11_tidies_8 fl_11_137 ga1 gs2 rfl ?_
    refine a_sipush (v := 8192) dX11_tidies_11 (by decide) ?_
    refine a_icmp_ge 18 dX11_tidies_14 (by decide) (fun c4 => ?_) (fun c4 => ?_)
    · replace h := ite_t c4 h
      refine a_iconst (v := 0) dX11_tidies_18 (by decide) ?_
      refine a_istore_n dX11_tidies_19 rfl (Nat.le_of_ble_eq_true rfl) (lv2 := [(1, .int 0), (0, .ref a0)]) rfl ?_
      exact a_lv (lv2 := [(0, .ref a0), (1, .int 0)]) (fa_cons rfl (fa_cons rfl fa_nil)) (hJ _ _ _ h)
    · replace h := ite_f c4 h
      exact a_vret dX11_tidies_17 rfl (hR _ _ h)
set_option maxHeartbeats 4000000 in
set_option maxRecDepth 100000 in
noncomputable def T_X11_tidies_20.{u} {α : Sort u} (J : Nat → List Value → Mem → α) (R : Unit → Mem → α) (N : α) (n : Nat) (a0 : Nat) (x1 : Int32) (M : Mem) : α := gd (fO M a0 11) N (if (M.2.2.1 a0 7) ≤ x1 then J 43 [.ref a0, .int 0] M else bnd (M.2.2.2.2 a0 6) N (fun r4 => gd (fA M r4 1 x1) N (J 20 [.ref a0, .int (x1 + 1)] (wI M r4 (x1.toNatClampNeg) (-1)))))
set_option maxHeartbeats 4000000 in
set_option maxRecDepth 100000 in
theorem n_X11_tidies_20.{u, v} {α : Sort u} {β : Sort v} (h : α → β) (J : Nat → List Value → Mem → α) (R : Unit → Mem → α) (N : α) (n : Nat) (a0 : Nat) (x1 : Int32) (M : Mem) : h (T_X11_tidies_20 J R N n a0 x1 M) = T_X11_tidies_20 (fun c l M => h (J c l M)) (fun v M => h (R v M)) (h N) n a0 x1 M := by
  simp only [T_X11_tidies_20, nat_ite h, nat_gd h, nat_bnd h, nat_bnd2 h]
set_option maxHeartbeats 4000000 in
set_option maxRecDepth 100000 in
theorem w_X11_tidies_20 {X : Nat × (Nat → Int32)} {al : Bool} {n : Nat} {Q : Option Value → Mem → Prop} {J : Nat → List Value → Mem → Prop} (hJ : ∀ c l M, J c l M → PW_X11_tidies X al n Q c l M) {R : Unit → Mem → Prop} (hR : ∀ v M, R v M → Q none M) {a0 : Nat} {x1 : Int32} {M : Mem} (h : T_X11_tidies_20 J R False n a0 x1 M) : AW X (RX11, cX11_tidies, 4, none, false, al, n) 0 0 20 [(0, .ref a0), (1, .int x1)] [] M Q := by
  unfold T_X11_tidies_20 at h
  refine a_iload_n dX11_tidies_20 rfl rfl ?_
  refine a_aload_n dX11_tidies_21 rfl rfl ?_
  obtain ⟨⟨ga1, gs2⟩, h⟩ := gd_t h
  refine a_get (v := .int (M.2.2.1 a0 7)) dX11_tidies_22 fl_11_137 ga1 gs2 rfl ?_
  refine a_icmp_ge 41 dX11_tidies_25 (by decide) (fun c3 => ?_) (fun c3 => ?_)
  · replace h := ite_t c3 h
    refine a_iconst (v := 0) dX11_tidies_41 (by decide) ?_
    refine a_istore_n dX11_tidies_42 rfl (Nat.le_of_ble_eq_true rfl) (lv2 := [(1, .int 0), (0, .ref a0)]) rfl ?_
    exact a_lv (lv2 := [(0, .ref a0), (1, .int 0)]) (fa_cons rfl (fa_cons rfl fa_nil)) (hJ _ _ _ h)
  · replace h := ite_f c3 h
    refine a_aload_n dX11_tidies_28 rfl rfl ?_
    obtain ⟨r4, e5, h⟩ := bnd_t h
    refine a_get (v := .ref r4) dX11_tidies_29 fl_11_29 ga1 gs2 (gvR e5 rfl) ?_
    refine a_iload_n dX11_tidies_32 rfl rfl ?_
    refine a_iconst (v := -1) dX11_tidies_33 (by decide) ?_
    obtain ⟨⟨ga6, gn7, gs8, gi9⟩, h⟩ := gd_t h
    refine a_iastore dX11_tidies_34 ga6 gs8 gi9 ?_
    refine a_iinc (v := (x1 + 1)) dX11_tidies_35 rfl (by first | rfl | decide) (Nat.le_of_ble_eq_true rfl) (lv2 := [(1, .int (x1 + 1)), (0, .ref a0)]) rfl ?_
    refine a_goto 20 dX11_tidies_38 (by decide) ?_
    exact a_lv (lv2 := [(0, .ref a0), (1, .int (x1 + 1))]) (fa_cons rfl (fa_cons rfl fa_nil)) (hJ _ _ _ h)
set_option maxHeartbeats 4000000 in
set_option maxRecDepth 100000 in
noncomputable def T_X11_tidies_43.{u} {α : Sort u} (J : Nat → List Value → Mem → α) (R : Unit → Mem → α) (N : α) (n : Nat) (a0 : Nat) (x1 : Int32) (M : Mem) : α := gd (fO M a0 11) N (if (M.2.2.1 a0 15) ≤ x1 then bnd2 (cal n (fun n => f_X11_marks n a0 (M.2.2.1 a0 16) M)) N (fun _ M4 => J 77 [.ref a0, .int 0] M4) else bnd (M.2.2.2.2 a0 11) N (fun r8 => gd (fA M r8 1 x1) N (bnd2 (cal n (fun n => f_X11_marks n a0 (M.2.2.1 r8 (x1.toNatClampNeg)) M)) N (fun _ M14 => J 43 [.ref a0, .int (x1 + 1)] M14))))
set_option maxHeartbeats 4000000 in
set_option maxRecDepth 100000 in
theorem n_X11_tidies_43.{u, v} {α : Sort u} {β : Sort v} (h : α → β) (J : Nat → List Value → Mem → α) (R : Unit → Mem → α) (N : α) (n : Nat) (a0 : Nat) (x1 : Int32) (M : Mem) : h (T_X11_tidies_43 J R N n a0 x1 M) = T_X11_tidies_43 (fun c l M => h (J c l M)) (fun v M => h (R v M)) (h N) n a0 x1 M := by
  simp only [T_X11_tidies_43, nat_ite h, nat_gd h, nat_bnd h, nat_bnd2 h]
set_option maxHeartbeats 4000000 in
set_option maxRecDepth 100000 in
theorem w_X11_tidies_43 {X : Nat × (Nat → Int32)} {al : Bool} {n : Nat} {Q : Option Value → Mem → Prop} {J : Nat → List Value → Mem → Prop} (hJ : ∀ c l M, J c l M → PW_X11_tidies X al n Q c l M) {R : Unit → Mem → Prop} (hR : ∀ v M, R v M → Q none M) {a0 : Nat} {x1 : Int32} {M : Mem} (h : T_X11_tidies_43 J R False n a0 x1 M) : AW X (RX11, cX11_tidies, 4, none, false, al, n) 0 0 43 [(0, .ref a0), (1, .int x1)] [] M Q := by
  unfold T_X11_tidies_43 at h
  refine a_iload_n dX11_tidies_43 rfl rfl ?_
  refine a_aload_n dX11_tidies_44 rfl rfl ?_
  obtain ⟨⟨ga1, gs2⟩, h⟩ := gd_t h
  refine a_get (v := .int (M.2.2.1 a0 15)) dX11_tidies_45 fl_11_144 ga1 gs2 rfl ?_
  refine a_icmp_ge 67 dX11_tidies_48 (by decide) (fun c3 => ?_) (fun c3 => ?_)
  · replace h := ite_t c3 h
    refine a_aload_n dX11_tidies_67 rfl rfl ?_
    refine a_aload_n dX11_tidies_68 rfl rfl ?_
    refine a_get (v := .int (M.2.2.1 a0 16)) dX11_tidies_69 fl_11_134 ga1 gs2 rfl ?_
    obtain ⟨_, M4, e5, h⟩ := bnd2_t h
    obtain ⟨n6, en7, e5⟩ := cal_t e5
    refine e_callV (As := [.int (M.2.2.1 a0 16)]) (st := []) (a := a0) (ci := 11) false dX11_tidies_72 mw_X11_marks (Or.inl ⟨rfl, ml_X11_147⟩) im_X11_marks se_X11_marks (by decide) ga1 gs2 rfl (Nat.le_of_ble_eq_true rfl) en7 (s_X11_marks e5) ?_
    refine a_iconst (v := 0) dX11_tidies_75 (by decide) ?_
    refine a_istore_n dX11_tidies_76 rfl (Nat.le_of_ble_eq_true rfl) (lv2 := [(1, .int 0), (0, .ref a0)]) rfl ?_
    exact a_lv (lv2 := [(0, .ref a0), (1, .int 0)]) (fa_cons rfl (fa_cons rfl fa_nil)) (hJ _ _ _ h)
  · replace h := ite_f c3 h
    refine a_aload_n dX11_tidies_51 rfl rfl ?_
    refine a_aload_n dX11_tidies_52 rfl rfl ?_
    obtain ⟨r8, e9, h⟩ := bnd_t h
    refine a_get (v := .ref r8) dX11_tidies_53 fl_11_38 ga1 gs2 (gvR e9 rfl) ?_
    refine a_iload_n dX11_tidies_56 rfl rfl ?_
    obtain ⟨⟨ga10, gn11, gs12, gi13⟩, h⟩ := gd_t h
    refine a_iaload dX11_tidies_57 ga10 gs12 gi13 ?_
    obtain ⟨_, M14, e15, h⟩ := bnd2_t h
    obtain ⟨n16, en17, e15⟩ := cal_t e15
    refine e_callV (As := [.int (M.2.2.1 r8 (x1.toNatClampNeg))]) (st := []) (a := a0) (ci := 11) false dX11_tidies_58 mw_X11_marks (Or.inl ⟨rfl, ml_X11_147⟩) im_X11_marks se_X11_marks (by decide) ga1 gs2 rfl (Nat.le_of_ble_eq_true rfl) en17 (s_X11_marks e15) ?_
    refine a_iinc (v := (x1 + 1)) dX11_tidies_61 rfl (by first | rfl | decide) (Nat.le_of_ble_eq_true rfl) (lv2 := [(1, .int (x1 + 1)), (0, .ref a0)]) rfl ?_
    refine a_goto 43 dX11_tidies_64 (by decide) ?_
    exact a_lv (lv2 := [(0, .ref a0), (1, .int (x1 + 1))]) (fa_cons rfl (fa_cons rfl fa_nil)) (hJ _ _ _ h)
set_option maxHeartbeats 4000000 in
set_option maxRecDepth 100000 in
noncomputable def T_X11_tidies_77.{u} {α : Sort u} (J : Nat → List Value → Mem → α) (R : Unit → Mem → α) (N : α) (n : Nat) (a0 : Nat) (x1 : Int32) (M : Mem) : α := if 4 ≤ x1 then J 154 [.ref a0, .int 0] M else J 84 [.ref a0, .int x1, .int 0] M
set_option maxHeartbeats 4000000 in
set_option maxRecDepth 100000 in
theorem n_X11_tidies_77.{u, v} {α : Sort u} {β : Sort v} (h : α → β) (J : Nat → List Value → Mem → α) (R : Unit → Mem → α) (N : α) (n : Nat) (a0 : Nat) (x1 : Int32) (M : Mem) : h (T_X11_tidies_77 J R N n a0 x1 M) = T_X11_tidies_77 (fun c l M => h (J c l M)) (fun v M => h (R v M)) (h N) n a0 x1 M := by
  simp only [T_X11_tidies_77, nat_ite h, nat_gd h, nat_bnd h, nat_bnd2 h]
set_option maxHeartbeats 4000000 in
set_option maxRecDepth 100000 in
theorem w_X11_tidies_77 {X : Nat × (Nat → Int32)} {al : Bool} {n : Nat} {Q : Option Value → Mem → Prop} {J : Nat → List Value → Mem → Prop} (hJ : ∀ c l M, J c l M → PW_X11_tidies X al n Q c l M) {R : Unit → Mem → Prop} (hR : ∀ v M, R v M → Q none M) {a0 : Nat} {x1 : Int32} {M : Mem} (h : T_X11_tidies_77 J R False n a0 x1 M) : AW X (RX11, cX11_tidies, 4, none, false, al, n) 0 0 77 [(0, .ref a0), (1, .int x1)] [] M Q := by
  unfold T_X11_tidies_77 at h
  refine a_iload_n dX11_tidies_77 rfl rfl ?_
  refine a_iconst (v := 4) dX11_tidies_78 (by decide) ?_
  refine a_icmp_ge 152 dX11_tidies_79 (by decide) (fun c1 => ?_) (fun c1 => ?_)
  · replace h := ite_t c1 h
    refine a_iconst (v := 0) dX11_tidies_152 (by decide) ?_
    refine a_istore_n dX11_tidies_153 rfl (Nat.le_of_ble_eq_true rfl) (lv2 := [(1, .int 0), (0, .ref a0)]) rfl ?_
    exact a_lv (lv2 := [(0, .ref a0), (1, .int 0)]) (fa_cons rfl (fa_cons rfl fa_nil)) (hJ _ _ _ h)
  · replace h := ite_f c1 h
    refine a_iconst (v := 0) dX11_tidies_82 (by decide) ?_
    refine a_istore_n dX11_tidies_83 rfl (Nat.le_of_ble_eq_true rfl) (lv2 := [(2, .int 0), (0, .ref a0), (1, .int x1)]) rfl ?_
    exact a_lv (lv2 := [(0, .ref a0), (1, .int x1), (2, .int 0)]) (fa_cons rfl (fa_cons rfl (fa_cons rfl fa_nil))) (hJ _ _ _ h)
set_option maxHeartbeats 4000000 in
set_option maxRecDepth 100000 in
noncomputable def T_X11_tidies_84.{u} {α : Sort u} (J : Nat → List Value → Mem → α) (R : Unit → Mem → α) (N : α) (n : Nat) (a0 : Nat) (x1 : Int32) (x2 : Int32) (M : Mem) : α := gd (fO M a0 11) N (bnd (M.2.2.2.2 a0 19) N (fun r3 => gd (fA M r3 1 x1) N (if (M.2.2.1 r3 (x1.toNatClampNeg)) ≤ x2 then J 77 [.ref a0, .int (x1 + 1)] M else bnd (M.2.2.2.2 a0 17) N (fun r10 => gd (fA M r10 1 ((200 * x1) + x2)) N (if (M.2.2.1 r10 (((200 * x1) + x2).toNatClampNeg)) = 0 then J 84 [.ref a0, .int x1, .int (x2 + 1)] M else bnd (M.2.2.2.2 a0 18) N (fun r17 => gd (fA M r17 1 ((200 * x1) + x2)) N (if (M.2.2.1 r17 (((200 * x1) + x2).toNatClampNeg)) < 0 then J 84 [.ref a0, .int x1, .int (x2 + 1)] M else bnd2 (cal n (fun n => f_X11_marks n a0 (M.2.2.1 r17 (((200 * x1) + x2).toNatClampNeg)) M)) N (fun _ M24 => J 84 [.ref a0, .int x1, .int (x2 + 1)] M24))))))))
set_option maxHeartbeats 4000000 in
set_option maxRecDepth 100000 in
theorem n_X11_tidies_84.{u, v} {α : Sort u} {β : Sort v} (h : α → β) (J : Nat → List Value → Mem → α) (R : Unit → Mem → α) (N : α) (n : Nat) (a0 : Nat) (x1 : Int32) (x2 : Int32) (M : Mem) : h (T_X11_tidies_84 J R N n a0 x1 x2 M) = T_X11_tidies_84 (fun c l M => h (J c l M)) (fun v M => h (R v M)) (h N) n a0 x1 x2 M := by
  simp only [T_X11_tidies_84, nat_ite h, nat_gd h, nat_bnd h, nat_bnd2 h]
set_option maxHeartbeats 4000000 in
set_option maxRecDepth 100000 in
theorem w_X11_tidies_84 {X : Nat × (Nat → Int32)} {al : Bool} {n : Nat} {Q : Option Value → Mem → Prop} {J : Nat → List Value → Mem → Prop} (hJ : ∀ c l M, J c l M → PW_X11_tidies X al n Q c l M) {R : Unit → Mem → Prop} (hR : ∀ v M, R v M → Q none M) {a0 : Nat} {x1 : Int32} {x2 : Int32} {M : Mem} (h : T_X11_tidies_84 J R False n a0 x1 x2 M) : AW X (RX11, cX11_tidies, 4, none, false, al, n) 0 0 84 [(0, .ref a0), (1, .int x1), (2, .int x2)] [] M Q := by
  unfold T_X11_tidies_84 at h
  refine a_iload_n dX11_tidies_84 rfl rfl ?_
  refine a_aload_n dX11_tidies_85 rfl rfl ?_
  obtain ⟨⟨ga1, gs2⟩, h⟩ := gd_t h
  obtain ⟨r3, e4, h⟩ := bnd_t h
  refine a_get (v := .ref r3) dX11_tidies_86 fl_11_56 ga1 gs2 (gvR e4 rfl) ?_
  refine a_iload_n dX11_tidies_89 rfl rfl ?_
  obtain ⟨⟨ga5, gn6, gs7, gi8⟩, h⟩ := gd_t h
  refine a_iaload dX11_tidies_90 ga5 gs7 gi8 ?_
  refine a_icmp_ge 146 dX11_tidies_91 (by decide) (fun c9 => ?_) (fun c9 => ?_)
  · replace h := ite_t c9 h
    refine a_iinc (v := (x1 + 1)) dX11_tidies_146 rfl (by first | rfl | decide) (Nat.le_of_ble_eq_true rfl) (lv2 := [(1, .int (x1 + 1)), (0, .ref a0), (2, .int x2)]) rfl ?_
    refine a_goto 77 dX11_tidies_149 (by decide) ?_
    exact a_lv (lv2 := [(0, .ref a0), (1, .int (x1 + 1))]) (fa_cons rfl (fa_cons rfl fa_nil)) (hJ _ _ _ h)
  · replace h := ite_f c9 h
    refine a_aload_n dX11_tidies_94 rfl rfl ?_
    obtain ⟨r10, e11, h⟩ := bnd_t h
    refine a_get (v := .ref r10) dX11_tidies_95 fl_11_50 ga1 gs2 (gvR e11 rfl) ?_
    refine a_sipush (v := 200) dX11_tidies_98 (by decide) ?_
    refine a_iload_n dX11_tidies_101 rfl rfl ?_
    refine a_imul dX11_tidies_102 ?_
    refine a_iload_n dX11_tidies_103 rfl rfl ?_
    refine a_iadd dX11_tidies_104 ?_
    obtain ⟨⟨ga12, gn13, gs14, gi15⟩, h⟩ := gd_t h
    refine a_iaload dX11_tidies_105 ga12 gs14 gi15 ?_
    refine a_if_eq 140 dX11_tidies_106 (by decide) (fun c16 => ?_) (fun c16 => ?_)
    · replace h := ite_t c16 h
      refine a_iinc (v := (x2 + 1)) dX11_tidies_140 rfl (by first | rfl | decide) (Nat.le_of_ble_eq_true rfl) (lv2 := [(2, .int (x2 + 1)), (0, .ref a0), (1, .int x1)]) rfl ?_
      refine a_goto 84 dX11_tidies_143 (by decide) ?_
      exact a_lv (lv2 := [(0, .ref a0), (1, .int x1), (2, .int (x2 + 1))]) (fa_cons rfl (fa_cons rfl (fa_cons rfl fa_nil))) (hJ _ _ _ h)
    · replace h := ite_f c16 h
      refine a_aload_n dX11_tidies_109 rfl rfl ?_
      obtain ⟨r17, e18, h⟩ := bnd_t h
      refine a_get (v := .ref r17) dX11_tidies_110 fl_11_53 ga1 gs2 (gvR e18 rfl) ?_
      refine a_sipush (v := 200) dX11_tidies_113 (by decide) ?_
      refine a_iload_n dX11_tidies_116 rfl rfl ?_
      refine a_imul dX11_tidies_117 ?_
      refine a_iload_n dX11_tidies_118 rfl rfl ?_
      refine a_iadd dX11_tidies_119 ?_
      obtain ⟨⟨ga19, gn20, gs21, gi22⟩, h⟩ := gd_t h
      refine a_iaload dX11_tidies_120 ga19 gs21 gi22 ?_
      refine a_if_lt 140 dX11_tidies_121 (by decide) (fun c23 => ?_) (fun c23 => ?_)
      · replace h := ite_t c23 h
        refine a_iinc (v := (x2 + 1)) dX11_tidies_140 rfl (by first | rfl | decide) (Nat.le_of_ble_eq_true rfl) (lv2 := [(2, .int (x2 + 1)), (0, .ref a0), (1, .int x1)]) rfl ?_
        refine a_goto 84 dX11_tidies_143 (by decide) ?_
        exact a_lv (lv2 := [(0, .ref a0), (1, .int x1), (2, .int (x2 + 1))]) (fa_cons rfl (fa_cons rfl (fa_cons rfl fa_nil))) (hJ _ _ _ h)
      · replace h := ite_f c23 h
        refine a_aload_n dX11_tidies_124 rfl rfl ?_
        refine a_aload_n dX11_tidies_125 rfl rfl ?_
        refine a_get (v := .ref r17) dX11_tidies_126 fl_11_53 ga1 gs2 (gvR e18 rfl) ?_
        refine a_sipush (v := 200) dX11_tidies_129 (by decide) ?_
        refine a_iload_n dX11_tidies_132 rfl rfl ?_
        refine a_imul dX11_tidies_133 ?_
        refine a_iload_n dX11_tidies_134 rfl rfl ?_
        refine a_iadd dX11_tidies_135 ?_
        refine a_iaload dX11_tidies_136 ga19 gs21 gi22 ?_
        obtain ⟨_, M24, e25, h⟩ := bnd2_t h
        obtain ⟨n26, en27, e25⟩ := cal_t e25
        refine e_callV (As := [.int (M.2.2.1 r17 (((200 * x1) + x2).toNatClampNeg))]) (st := []) (a := a0) (ci := 11) false dX11_tidies_137 mw_X11_marks (Or.inl ⟨rfl, ml_X11_147⟩) im_X11_marks se_X11_marks (by decide) ga1 gs2 rfl (Nat.le_of_ble_eq_true rfl) en27 (s_X11_marks e25) ?_
        refine a_iinc (v := (x2 + 1)) dX11_tidies_140 rfl (by first | rfl | decide) (Nat.le_of_ble_eq_true rfl) (lv2 := [(2, .int (x2 + 1)), (0, .ref a0), (1, .int x1)]) rfl ?_
        refine a_goto 84 dX11_tidies_143 (by decide) ?_
        exact a_lv (lv2 := [(0, .ref a0), (1, .int x1), (2, .int (x2 + 1))]) (fa_cons rfl (fa_cons rfl (fa_cons rfl fa_nil))) (hJ _ _ _ h)
set_option maxHeartbeats 4000000 in
set_option maxRecDepth 100000 in
noncomputable def T_X11_tidies_154.{u} {α : Sort u} (J : Nat → List Value → Mem → α) (R : Unit → Mem → α) (N : α) (n : Nat) (a0 : Nat) (x1 : Int32) (M : Mem) : α := gd (fO M a0 11) N (if (M.2.2.1 a0 24) ≤ x1 then bnd2 (cal n (fun n => f_X11_clears n a0 M)) N (fun _ M4 => J 207 [.ref a0, .int (M.2.2.1 a0 7), .int 0] M4) else bnd (M.2.2.2.2 a0 20) N (fun r8 => gd (fA M r8 1 x1) N (if (M.2.2.1 r8 (x1.toNatClampNeg)) = 0 then J 154 [.ref a0, .int (x1 + 1)] M else bnd (M.2.2.2.2 a0 21) N (fun r15 => gd (fA M r15 1 x1) N (if (M.2.2.1 r15 (x1.toNatClampNeg)) < 0 then J 154 [.ref a0, .int (x1 + 1)] M else bnd2 (cal n (fun n => f_X11_marks n a0 (M.2.2.1 r15 (x1.toNatClampNeg)) M)) N (fun _ M22 => J 154 [.ref a0, .int (x1 + 1)] M22))))))
set_option maxHeartbeats 4000000 in
set_option maxRecDepth 100000 in
theorem n_X11_tidies_154.{u, v} {α : Sort u} {β : Sort v} (h : α → β) (J : Nat → List Value → Mem → α) (R : Unit → Mem → α) (N : α) (n : Nat) (a0 : Nat) (x1 : Int32) (M : Mem) : h (T_X11_tidies_154 J R N n a0 x1 M) = T_X11_tidies_154 (fun c l M => h (J c l M)) (fun v M => h (R v M)) (h N) n a0 x1 M := by
  simp only [T_X11_tidies_154, nat_ite h, nat_gd h, nat_bnd h, nat_bnd2 h]
set_option maxHeartbeats 4000000 in
set_option maxRecDepth 100000 in
theorem w_X11_tidies_154 {X : Nat × (Nat → Int32)} {al : Bool} {n : Nat} {Q : Option Value → Mem → Prop} {J : Nat → List Value → Mem → Prop} (hJ : ∀ c l M, J c l M → PW_X11_tidies X al n Q c l M) {R : Unit → Mem → Prop} (hR : ∀ v M, R v M → Q none M) {a0 : Nat} {x1 : Int32} {M : Mem} (h : T_X11_tidies_154 J R False n a0 x1 M) : AW X (RX11, cX11_tidies, 4, none, false, al, n) 0 0 154 [(0, .ref a0), (1, .int x1)] [] M Q := by
  unfold T_X11_tidies_154 at h
  refine a_iload_n dX11_tidies_154 rfl rfl ?_
  refine a_aload_n dX11_tidies_155 rfl rfl ?_
  obtain ⟨⟨ga1, gs2⟩, h⟩ := gd_t h
  refine a_get (v := .int (M.2.2.1 a0 24)) dX11_tidies_156 fl_11_151 ga1 gs2 rfl ?_
  refine a_icmp_ge 196 dX11_tidies_159 (by decide) (fun c3 => ?_) (fun c3 => ?_)
  · replace h := ite_t c3 h
    refine a_aload_n dX11_tidies_196 rfl rfl ?_
    refine a_get (v := .int (M.2.2.1 a0 7)) dX11_tidies_197 fl_11_137 ga1 gs2 rfl ?_
    refine a_istore_n dX11_tidies_200 rfl (Nat.le_of_ble_eq_true rfl) (lv2 := [(1, .int (M.2.2.1 a0 7)), (0, .ref a0)]) rfl ?_
    refine a_aload_n dX11_tidies_201 rfl rfl ?_
    obtain ⟨_, M4, e5, h⟩ := bnd2_t h
    obtain ⟨n6, en7, e5⟩ := cal_t e5
    refine e_callV (As := []) (st := []) (a := a0) (ci := 11) false dX11_tidies_202 mw_X11_clears (Or.inl ⟨rfl, ml_X11_127⟩) im_X11_clears se_X11_clears (by decide) ga1 gs2 rfl (Nat.le_of_ble_eq_true rfl) en7 (s_X11_clears e5) ?_
    refine a_iconst (v := 0) dX11_tidies_205 (by decide) ?_
    refine a_istore_n dX11_tidies_206 rfl (Nat.le_of_ble_eq_true rfl) (lv2 := [(2, .int 0), (1, .int (M.2.2.1 a0 7)), (0, .ref a0)]) rfl ?_
    exact a_lv (lv2 := [(0, .ref a0), (1, .int (M.2.2.1 a0 7)), (2, .int 0)]) (fa_cons rfl (fa_cons rfl (fa_cons rfl fa_nil))) (hJ _ _ _ h)
  · replace h := ite_f c3 h
    refine a_aload_n dX11_tidies_162 rfl rfl ?_
    obtain ⟨r8, e9, h⟩ := bnd_t h
    refine a_get (v := .ref r8) dX11_tidies_163 fl_11_59 ga1 gs2 (gvR e9 rfl) ?_
    refine a_iload_n dX11_tidies_166 rfl rfl ?_
    obtain ⟨⟨ga10, gn11, gs12, gi13⟩, h⟩ := gd_t h
    refine a_iaload dX11_tidies_167 ga10 gs12 gi13 ?_
    refine a_if_eq 190 dX11_tidies_168 (by decide) (fun c14 => ?_) (fun c14 => ?_)
    · replace h := ite_t c14 h
      refine a_iinc (v := (x1 + 1)) dX11_tidies_190 rfl (by first | rfl | decide) (Nat.le_of_ble_eq_true rfl) (lv2 := [(1, .int (x1 + 1)), (0, .ref a0)]) rfl ?_
      refine a_goto 154 dX11_tidies_193 (by decide) ?_
      exact a_lv (lv2 := [(0, .ref a0), (1, .int (x1 + 1))]) (fa_cons rfl (fa_cons rfl fa_nil)) (hJ _ _ _ h)
    · replace h := ite_f c14 h
      refine a_aload_n dX11_tidies_171 rfl rfl ?_
      obtain ⟨r15, e16, h⟩ := bnd_t h
      refine a_get (v := .ref r15) dX11_tidies_172 fl_11_62 ga1 gs2 (gvR e16 rfl) ?_
      refine a_iload_n dX11_tidies_175 rfl rfl ?_
      obtain ⟨⟨ga17, gn18, gs19, gi20⟩, h⟩ := gd_t h
      refine a_iaload dX11_tidies_176 ga17 gs19 gi20 ?_
      refine a_if_lt 190 dX11_tidies_177 (by decide) (fun c21 => ?_) (fun c21 => ?_)
      · replace h := ite_t c21 h
        refine a_iinc (v := (x1 + 1)) dX11_tidies_190 rfl (by first | rfl | decide) (Nat.le_of_ble_eq_true rfl) (lv2 := [(1, .int (x1 + 1)), (0, .ref a0)]) rfl ?_
        refine a_goto 154 dX11_tidies_193 (by decide) ?_
        exact a_lv (lv2 := [(0, .ref a0), (1, .int (x1 + 1))]) (fa_cons rfl (fa_cons rfl fa_nil)) (hJ _ _ _ h)
      · replace h := ite_f c21 h
        refine a_aload_n dX11_tidies_180 rfl rfl ?_
        refine a_aload_n dX11_tidies_181 rfl rfl ?_
        refine a_get (v := .ref r15) dX11_tidies_182 fl_11_62 ga1 gs2 (gvR e16 rfl) ?_
        refine a_iload_n dX11_tidies_185 rfl rfl ?_
        refine a_iaload dX11_tidies_186 ga17 gs19 gi20 ?_
        obtain ⟨_, M22, e23, h⟩ := bnd2_t h
        obtain ⟨n24, en25, e23⟩ := cal_t e23
        refine e_callV (As := [.int (M.2.2.1 r15 (x1.toNatClampNeg))]) (st := []) (a := a0) (ci := 11) false dX11_tidies_187 mw_X11_marks (Or.inl ⟨rfl, ml_X11_147⟩) im_X11_marks se_X11_marks (by decide) ga1 gs2 rfl (Nat.le_of_ble_eq_true rfl) en25 (s_X11_marks e23) ?_
        refine a_iinc (v := (x1 + 1)) dX11_tidies_190 rfl (by first | rfl | decide) (Nat.le_of_ble_eq_true rfl) (lv2 := [(1, .int (x1 + 1)), (0, .ref a0)]) rfl ?_
        refine a_goto 154 dX11_tidies_193 (by decide) ?_
        exact a_lv (lv2 := [(0, .ref a0), (1, .int (x1 + 1))]) (fa_cons rfl (fa_cons rfl fa_nil)) (hJ _ _ _ h)
set_option maxHeartbeats 4000000 in
set_option maxRecDepth 100000 in
noncomputable def T_X11_tidies_207.{u} {α : Sort u} (J : Nat → List Value → Mem → α) (R : Unit → Mem → α) (N : α) (n : Nat) (a0 : Nat) (x1 : Int32) (x2 : Int32) (M : Mem) : α := if x1 ≤ x2 then J 296 [.ref a0, .int 0] M else gd (fO M a0 11) N (bnd (M.2.2.2.2 a0 6) N (fun r4 => gd (fA M r4 1 x2) N (if (M.2.2.1 r4 (x2.toNatClampNeg)) = (-1) then J 207 [.ref a0, .int x1, .int (x2 + 1)] M else bnd (M.2.2.2.2 a0 1) N (fun r11 => gd (fA M r11 1 x2) N (bnd (M.2.2.2.2 a0 2) N (fun r17 => gd (fA M r17 1 x2) N (if (M.2.2.1 r17 (x2.toNatClampNeg)) = (-1) then J 259 [.ref a0, .int x1, .int x2, .int (-1), .int (M.2.2.1 r11 (x2.toNatClampNeg)), .ref a0, .int x2, .ref r4] M else gd (fA M r4 1 (M.2.2.1 r17 (x2.toNatClampNeg))) N (J 259 [.ref a0, .int x1, .int x2, .int (M.2.2.1 r4 ((M.2.2.1 r17 (x2.toNatClampNeg)).toNatClampNeg)), .int (M.2.2.1 r11 (x2.toNatClampNeg)), .ref a0, .int x2, .ref r4] M))))))))
set_option maxHeartbeats 4000000 in
set_option maxRecDepth 100000 in
theorem n_X11_tidies_207.{u, v} {α : Sort u} {β : Sort v} (h : α → β) (J : Nat → List Value → Mem → α) (R : Unit → Mem → α) (N : α) (n : Nat) (a0 : Nat) (x1 : Int32) (x2 : Int32) (M : Mem) : h (T_X11_tidies_207 J R N n a0 x1 x2 M) = T_X11_tidies_207 (fun c l M => h (J c l M)) (fun v M => h (R v M)) (h N) n a0 x1 x2 M := by
  simp only [T_X11_tidies_207, nat_ite h, nat_gd h, nat_bnd h, nat_bnd2 h]
set_option maxHeartbeats 4000000 in
set_option maxRecDepth 100000 in
theorem w_X11_tidies_207 {X : Nat × (Nat → Int32)} {al : Bool} {n : Nat} {Q : Option Value → Mem → Prop} {J : Nat → List Value → Mem → Prop} (hJ : ∀ c l M, J c l M → PW_X11_tidies X al n Q c l M) {R : Unit → Mem → Prop} (hR : ∀ v M, R v M → Q none M) {a0 : Nat} {x1 : Int32} {x2 : Int32} {M : Mem} (h : T_X11_tidies_207 J R False n a0 x1 x2 M) : AW X (RX11, cX11_tidies, 4, none, false, al, n) 0 0 207 [(0, .ref a0), (1, .int x1), (2, .int x2)] [] M Q := by
  unfold T_X11_tidies_207 at h
  refine a_iload_n dX11_tidies_207 rfl rfl ?_
  refine a_iload_n dX11_tidies_208 rfl rfl ?_
  refine a_icmp_ge 294 dX11_tidies_209 (by decide) (fun c1 => ?_) (fun c1 => ?_)
  · replace h := ite_t c1 h
    refine a_iconst (v := 0) dX11_tidies_294 (by decide) ?_
    refine a_istore_n dX11_tidies_295 rfl (Nat.le_of_ble_eq_true rfl) (lv2 := [(2, .int 0), (0, .ref a0), (1, .int x1)]) rfl ?_
    exact a_lv (lv2 := [(0, .ref a0), (2, .int 0)]) (fa_cons rfl (fa_cons rfl fa_nil)) (hJ _ _ _ h)
  · replace h := ite_f c1 h
    refine a_aload_n dX11_tidies_212 rfl rfl ?_
    obtain ⟨⟨ga2, gs3⟩, h⟩ := gd_t h
    obtain ⟨r4, e5, h⟩ := bnd_t h
    refine a_get (v := .ref r4) dX11_tidies_213 fl_11_29 ga2 gs3 (gvR e5 rfl) ?_
    refine a_iload_n dX11_tidies_216 rfl rfl ?_
    obtain ⟨⟨ga6, gn7, gs8, gi9⟩, h⟩ := gd_t h
    refine a_iaload dX11_tidies_217 ga6 gs8 gi9 ?_
    refine a_iconst (v := -1) dX11_tidies_218 (by decide) ?_
    refine a_icmp_eq 288 dX11_tidies_219 (by decide) (fun c10 => ?_) (fun c10 => ?_)
    · replace h := ite_t c10 h
      refine a_iinc (v := (x2 + 1)) dX11_tidies_288 rfl (by first | rfl | decide) (Nat.le_of_ble_eq_true rfl) (lv2 := [(2, .int (x2 + 1)), (0, .ref a0), (1, .int x1)]) rfl ?_
      refine a_goto 207 dX11_tidies_291 (by decide) ?_
      exact a_lv (lv2 := [(0, .ref a0), (1, .int x1), (2, .int (x2 + 1))]) (fa_cons rfl (fa_cons rfl (fa_cons rfl fa_nil))) (hJ _ _ _ h)
    · replace h := ite_f c10 h
      refine a_aload_n dX11_tidies_222 rfl rfl ?_
      refine a_get (v := .ref r4) dX11_tidies_223 fl_11_29 ga2 gs3 (gvR e5 rfl) ?_
      refine a_iload_n dX11_tidies_226 rfl rfl ?_
      refine a_aload_n dX11_tidies_227 rfl rfl ?_
      refine a_aload_n dX11_tidies_228 rfl rfl ?_
      obtain ⟨r11, e12, h⟩ := bnd_t h
      refine a_get (v := .ref r11) dX11_tidies_229 fl_11_13 ga2 gs3 (gvR e12 rfl) ?_
      refine a_iload_n dX11_tidies_232 rfl rfl ?_
      obtain ⟨⟨ga13, gn14, gs15, gi16⟩, h⟩ := gd_t h
      refine a_iaload dX11_tidies_233 ga13 gs15 gi16 ?_
      refine a_aload_n dX11_tidies_234 rfl rfl ?_
      obtain ⟨r17, e18, h⟩ := bnd_t h
      refine a_get (v := .ref r17) dX11_tidies_235 fl_11_17 ga2 gs3 (gvR e18 rfl) ?_
      refine a_iload_n dX11_tidies_238 rfl rfl ?_
      obtain ⟨⟨ga19, gn20, gs21, gi22⟩, h⟩ := gd_t h
      refine a_iaload dX11_tidies_239 ga19 gs21 gi22 ?_
      refine a_iconst (v := -1) dX11_tidies_240 (by decide) ?_
      refine a_icmp_ne 248 dX11_tidies_241 (by decide) (fun c23 => ?_) (fun c23 => ?_)
      · replace h := ite_f c23 h
        refine a_aload_n dX11_tidies_248 rfl rfl ?_
        refine a_get (v := .ref r4) dX11_tidies_249 fl_11_29 ga2 gs3 (gvR e5 rfl) ?_
        refine a_aload_n dX11_tidies_252 rfl rfl ?_
        refine a_get (v := .ref r17) dX11_tidies_253 fl_11_17 ga2 gs3 (gvR e18 rfl) ?_
        refine a_iload_n dX11_tidies_256 rfl rfl ?_
        refine a_iaload dX11_tidies_257 ga19 gs21 gi22 ?_
        obtain ⟨⟨ga24, gn25, gs26, gi27⟩, h⟩ := gd_t h
        refine a_iaload dX11_tidies_258 ga24 gs26 gi27 ?_
        exact a_lv (lv2 := [(0, .ref a0), (1, .int x1), (2, .int x2)]) (fa_cons rfl (fa_cons rfl (fa_cons rfl fa_nil))) (hJ _ _ _ h)
      · replace h := ite_t c23 h
        refine a_iconst (v := -1) dX11_tidies_244 (by decide) ?_
        refine a_goto 259 dX11_tidies_245 (by decide) ?_
        exact a_lv (lv2 := [(0, .ref a0), (1, .int x1), (2, .int x2)]) (fa_cons rfl (fa_cons rfl (fa_cons rfl fa_nil))) (hJ _ _ _ h)
set_option maxHeartbeats 4000000 in
set_option maxRecDepth 100000 in
noncomputable def T_X11_tidies_259.{u} {α : Sort u} (J : Nat → List Value → Mem → α) (R : Unit → Mem → α) (N : α) (n : Nat) (a0 : Nat) (x1 : Int32) (x2 : Int32) (xs0 : Int32) (xs1 : Int32) (ra2 : Nat) (xs3 : Int32) (ra4 : Nat) (M : Mem) : α := gd (fO M a0 11) N (bnd (M.2.2.2.2 a0 3) N (fun r3 => gd (fA M r3 1 x2) N (if (M.2.2.1 r3 (x2.toNatClampNeg)) = (-1) then gd (fO M ra2 11) N (bnd2 (cal n (fun n => f_X11_formula n ra2 xs1 xs0 (-1) M)) N (fun v29 M30 => gd (fA M30 ra4 1 xs3) N (J 207 [.ref a0, .int x1, .int (x2 + 1)] (wI M30 ra4 (xs3.toNatClampNeg) v29)))) else bnd (M.2.2.2.2 a0 6) N (fun r10 => gd (fA M r10 1 (M.2.2.1 r3 (x2.toNatClampNeg))) N (gd (fO M ra2 11) N (bnd2 (cal n (fun n => f_X11_formula n ra2 xs1 xs0 (M.2.2.1 r10 ((M.2.2.1 r3 (x2.toNatClampNeg)).toNatClampNeg)) M)) N (fun v18 M19 => gd (fA M19 ra4 1 xs3) N (J 207 [.ref a0, .int x1, .int (x2 + 1)] (wI M19 ra4 (xs3.toNatClampNeg) v18)))))))))
set_option maxHeartbeats 4000000 in
set_option maxRecDepth 100000 in
theorem n_X11_tidies_259.{u, v} {α : Sort u} {β : Sort v} (h : α → β) (J : Nat → List Value → Mem → α) (R : Unit → Mem → α) (N : α) (n : Nat) (a0 : Nat) (x1 : Int32) (x2 : Int32) (xs0 : Int32) (xs1 : Int32) (ra2 : Nat) (xs3 : Int32) (ra4 : Nat) (M : Mem) : h (T_X11_tidies_259 J R N n a0 x1 x2 xs0 xs1 ra2 xs3 ra4 M) = T_X11_tidies_259 (fun c l M => h (J c l M)) (fun v M => h (R v M)) (h N) n a0 x1 x2 xs0 xs1 ra2 xs3 ra4 M := by
  simp only [T_X11_tidies_259, nat_ite h, nat_gd h, nat_bnd h, nat_bnd2 h]
set_option maxHeartbeats 4000000 in
set_option maxRecDepth 100000 in
theorem w_X11_tidies_259 {X : Nat × (Nat → Int32)} {al : Bool} {n : Nat} {Q : Option Value → Mem → Prop} {J : Nat → List Value → Mem → Prop} (hJ : ∀ c l M, J c l M → PW_X11_tidies X al n Q c l M) {R : Unit → Mem → Prop} (hR : ∀ v M, R v M → Q none M) {a0 : Nat} {x1 : Int32} {x2 : Int32} {xs0 : Int32} {xs1 : Int32} {ra2 : Nat} {xs3 : Int32} {ra4 : Nat} {M : Mem} (h : T_X11_tidies_259 J R False n a0 x1 x2 xs0 xs1 ra2 xs3 ra4 M) : AW X (RX11, cX11_tidies, 4, none, false, al, n) 0 0 259 [(0, .ref a0), (1, .int x1), (2, .int x2)] [.int xs0, .int xs1, .ref ra2, .int xs3, .ref ra4] M Q := by
  unfold T_X11_tidies_259 at h
  refine a_aload_n dX11_tidies_259 rfl rfl ?_
  obtain ⟨⟨ga1, gs2⟩, h⟩ := gd_t h
  obtain ⟨r3, e4, h⟩ := bnd_t h
  refine a_get (v := .ref r3) dX11_tidies_260 fl_11_20 ga1 gs2 (gvR e4 rfl) ?_
  refine a_iload_n dX11_tidies_263 rfl rfl ?_
  obtain ⟨⟨ga5, gn6, gs7, gi8⟩, h⟩ := gd_t h
  refine a_iaload dX11_tidies_264 ga5 gs7 gi8 ?_
  refine a_iconst (v := -1) dX11_tidies_265 (by decide) ?_
  refine a_icmp_ne 273 dX11_tidies_266 (by decide) (fun c9 => ?_) (fun c9 => ?_)
  · replace h := ite_f c9 h
    refine a_aload_n dX11_tidies_273 rfl rfl ?_
    obtain ⟨r10, e11, h⟩ := bnd_t h
    refine a_get (v := .ref r10) dX11_tidies_274 fl_11_29 ga1 gs2 (gvR e11 rfl) ?_
    refine a_aload_n dX11_tidies_277 rfl rfl ?_
    refine a_get (v := .ref r3) dX11_tidies_278 fl_11_20 ga1 gs2 (gvR e4 rfl) ?_
    refine a_iload_n dX11_tidies_281 rfl rfl ?_
    refine a_iaload dX11_tidies_282 ga5 gs7 gi8 ?_
    obtain ⟨⟨ga12, gn13, gs14, gi15⟩, h⟩ := gd_t h
    refine a_iaload dX11_tidies_283 ga12 gs14 gi15 ?_
    obtain ⟨⟨ga16, gs17⟩, h⟩ := gd_t h
    obtain ⟨v18, M19, e20, h⟩ := bnd2_t h
    obtain ⟨n21, en22, e20⟩ := cal_t e20
    refine e_callV (As := [.int xs1, .int xs0, .int (M.2.2.1 r10 ((M.2.2.1 r3 (x2.toNatClampNeg)).toNatClampNeg))]) (st := [.int xs3, .ref ra4]) (a := ra2) (ci := 11) false dX11_tidies_284 mw_X11_formula (Or.inl ⟨rfl, ml_X11_130⟩) im_X11_formula se_X11_formula (by decide) ga16 gs17 rfl (Nat.le_of_ble_eq_true rfl) en22 (s_X11_formula e20) ?_
    obtain ⟨⟨ga23, gn24, gs25, gi26⟩, h⟩ := gd_t h
    refine a_iastore dX11_tidies_287 ga23 gs25 gi26 ?_
    refine a_iinc (v := (x2 + 1)) dX11_tidies_288 rfl (by first | rfl | decide) (Nat.le_of_ble_eq_true rfl) (lv2 := [(2, .int (x2 + 1)), (0, .ref a0), (1, .int x1)]) rfl ?_
    refine a_goto 207 dX11_tidies_291 (by decide) ?_
    exact a_lv (lv2 := [(0, .ref a0), (1, .int x1), (2, .int (x2 + 1))]) (fa_cons rfl (fa_cons rfl (fa_cons rfl fa_nil))) (hJ _ _ _ h)
  · replace h := ite_t c9 h
    refine a_iconst (v := -1) dX11_tidies_269 (by decide) ?_
    refine a_goto 284 dX11_tidies_270 (by decide) ?_
    obtain ⟨⟨ga27, gs28⟩, h⟩ := gd_t h
    obtain ⟨v29, M30, e31, h⟩ := bnd2_t h
    obtain ⟨n32, en33, e31⟩ := cal_t e31
    refine e_callV (As := [.int xs1, .int xs0, .int (-1)]) (st := [.int xs3, .ref ra4]) (a := ra2) (ci := 11) false dX11_tidies_284 mw_X11_formula (Or.inl ⟨rfl, ml_X11_130⟩) im_X11_formula se_X11_formula (by decide) ga27 gs28 rfl (Nat.le_of_ble_eq_true rfl) en33 (s_X11_formula e31) ?_
    obtain ⟨⟨ga34, gn35, gs36, gi37⟩, h⟩ := gd_t h
    refine a_iastore dX11_tidies_287 ga34 gs36 gi37 ?_
    refine a_iinc (v := (x2 + 1)) dX11_tidies_288 rfl (by first | rfl | decide) (Nat.le_of_ble_eq_true rfl) (lv2 := [(2, .int (x2 + 1)), (0, .ref a0), (1, .int x1)]) rfl ?_
    refine a_goto 207 dX11_tidies_291 (by decide) ?_
    exact a_lv (lv2 := [(0, .ref a0), (1, .int x1), (2, .int (x2 + 1))]) (fa_cons rfl (fa_cons rfl (fa_cons rfl fa_nil))) (hJ _ _ _ h)
set_option maxHeartbeats 4000000 in
set_option maxRecDepth 100000 in
noncomputable def T_X11_tidies_296.{u} {α : Sort u} (J : Nat → List Value → Mem → α) (R : Unit → Mem → α) (N : α) (n : Nat) (a0 : Nat) (x2 : Int32) (M : Mem) : α := gd (fO M a0 11) N (if (M.2.2.1 a0 15) ≤ x2 then bnd (M.2.2.2.2 a0 6) N (fun r4 => gd (fA M r4 1 (M.2.2.1 a0 16)) N (J 342 [.ref a0, .int 0] (wI M a0 16 (M.2.2.1 r4 ((M.2.2.1 a0 16).toNatClampNeg))))) else bnd (M.2.2.2.2 a0 11) N (fun r10 => bnd (M.2.2.2.2 a0 6) N (fun r12 => gd (fA M r10 1 x2) N (gd (fA M r12 1 (M.2.2.1 r10 (x2.toNatClampNeg))) N (J 296 [.ref a0, .int (x2 + 1)] (wI M r10 (x2.toNatClampNeg) (M.2.2.1 r12 ((M.2.2.1 r10 (x2.toNatClampNeg)).toNatClampNeg))))))))
set_option maxHeartbeats 4000000 in
set_option maxRecDepth 100000 in
theorem n_X11_tidies_296.{u, v} {α : Sort u} {β : Sort v} (h : α → β) (J : Nat → List Value → Mem → α) (R : Unit → Mem → α) (N : α) (n : Nat) (a0 : Nat) (x2 : Int32) (M : Mem) : h (T_X11_tidies_296 J R N n a0 x2 M) = T_X11_tidies_296 (fun c l M => h (J c l M)) (fun v M => h (R v M)) (h N) n a0 x2 M := by
  simp only [T_X11_tidies_296, nat_ite h, nat_gd h, nat_bnd h, nat_bnd2 h]
set_option maxHeartbeats 4000000 in
set_option maxRecDepth 100000 in
theorem w_X11_tidies_296 {X : Nat × (Nat → Int32)} {al : Bool} {n : Nat} {Q : Option Value → Mem → Prop} {J : Nat → List Value → Mem → Prop} (hJ : ∀ c l M, J c l M → PW_X11_tidies X al n Q c l M) {R : Unit → Mem → Prop} (hR : ∀ v M, R v M → Q none M) {a0 : Nat} {x2 : Int32} {M : Mem} (h : T_X11_tidies_296 J R False n a0 x2 M) : AW X (RX11, cX11_tidies, 4, none, false, al, n) 0 0 296 [(0, .ref a0), (2, .int x2)] [] M Q := by
  unfold T_X11_tidies_296 at h
  refine a_iload_n dX11_tidies_296 rfl rfl ?_
  refine a_aload_n dX11_tidies_297 rfl rfl ?_
  obtain ⟨⟨ga1, gs2⟩, h⟩ := gd_t h
  refine a_get (v := .int (M.2.2.1 a0 15)) dX11_tidies_298 fl_11_144 ga1 gs2 rfl ?_
  refine a_icmp_ge 327 dX11_tidies_301 (by decide) (fun c3 => ?_) (fun c3 => ?_)
  · replace h := ite_t c3 h
    refine a_aload_n dX11_tidies_327 rfl rfl ?_
    refine a_aload_n dX11_tidies_328 rfl rfl ?_
    obtain ⟨r4, e5, h⟩ := bnd_t h
    refine a_get (v := .ref r4) dX11_tidies_329 fl_11_29 ga1 gs2 (gvR e5 rfl) ?_
    refine a_aload_n dX11_tidies_332 rfl rfl ?_
    refine a_get (v := .int (M.2.2.1 a0 16)) dX11_tidies_333 fl_11_134 ga1 gs2 rfl ?_
    obtain ⟨⟨ga6, gn7, gs8, gi9⟩, h⟩ := gd_t h
    refine a_iaload dX11_tidies_336 ga6 gs8 gi9 ?_
    refine a_putI dX11_tidies_337 (Or.inl ⟨fl_11_134, Or.inl rfl⟩) rfl ga1 gs2 rfl rfl ?_
    refine a_iconst (v := 0) dX11_tidies_340 (by decide) ?_
    refine a_istore_n dX11_tidies_341 rfl (Nat.le_of_ble_eq_true rfl) (lv2 := [(2, .int 0), (0, .ref a0)]) rfl ?_
    exact a_lv (lv2 := [(0, .ref a0), (2, .int 0)]) (fa_cons rfl (fa_cons rfl fa_nil)) (hJ _ _ _ h)
  · replace h := ite_f c3 h
    refine a_aload_n dX11_tidies_304 rfl rfl ?_
    obtain ⟨r10, e11, h⟩ := bnd_t h
    refine a_get (v := .ref r10) dX11_tidies_305 fl_11_38 ga1 gs2 (gvR e11 rfl) ?_
    refine a_iload_n dX11_tidies_308 rfl rfl ?_
    refine a_aload_n dX11_tidies_309 rfl rfl ?_
    obtain ⟨r12, e13, h⟩ := bnd_t h
    refine a_get (v := .ref r12) dX11_tidies_310 fl_11_29 ga1 gs2 (gvR e13 rfl) ?_
    refine a_aload_n dX11_tidies_313 rfl rfl ?_
    refine a_get (v := .ref r10) dX11_tidies_314 fl_11_38 ga1 gs2 (gvR e11 rfl) ?_
    refine a_iload_n dX11_tidies_317 rfl rfl ?_
    obtain ⟨⟨ga14, gn15, gs16, gi17⟩, h⟩ := gd_t h
    refine a_iaload dX11_tidies_318 ga14 gs16 gi17 ?_
    obtain ⟨⟨ga18, gn19, gs20, gi21⟩, h⟩ := gd_t h
    refine a_iaload dX11_tidies_319 ga18 gs20 gi21 ?_
    refine a_iastore dX11_tidies_320 ga14 gs16 gi17 ?_
    refine a_iinc (v := (x2 + 1)) dX11_tidies_321 rfl (by first | rfl | decide) (Nat.le_of_ble_eq_true rfl) (lv2 := [(2, .int (x2 + 1)), (0, .ref a0)]) rfl ?_
    refine a_goto 296 dX11_tidies_324 (by decide) ?_
    exact a_lv (lv2 := [(0, .ref a0), (2, .int (x2 + 1))]) (fa_cons rfl (fa_cons rfl fa_nil)) (hJ _ _ _ h)
set_option maxHeartbeats 4000000 in
set_option maxRecDepth 100000 in
noncomputable def T_X11_tidies_342.{u} {α : Sort u} (J : Nat → List Value → Mem → α) (R : Unit → Mem → α) (N : α) (n : Nat) (a0 : Nat) (x2 : Int32) (M : Mem) : α := if 4 ≤ x2 then J 432 [.ref a0, .int 0] M else J 349 [.ref a0, .int x2, .int 0] M
set_option maxHeartbeats 4000000 in
set_option maxRecDepth 100000 in
theorem n_X11_tidies_342.{u, v} {α : Sort u} {β : Sort v} (h : α → β) (J : Nat → List Value → Mem → α) (R : Unit → Mem → α) (N : α) (n : Nat) (a0 : Nat) (x2 : Int32) (M : Mem) : h (T_X11_tidies_342 J R N n a0 x2 M) = T_X11_tidies_342 (fun c l M => h (J c l M)) (fun v M => h (R v M)) (h N) n a0 x2 M := by
  simp only [T_X11_tidies_342, nat_ite h, nat_gd h, nat_bnd h, nat_bnd2 h]
set_option maxHeartbeats 4000000 in
set_option maxRecDepth 100000 in
theorem w_X11_tidies_342 {X : Nat × (Nat → Int32)} {al : Bool} {n : Nat} {Q : Option Value → Mem → Prop} {J : Nat → List Value → Mem → Prop} (hJ : ∀ c l M, J c l M → PW_X11_tidies X al n Q c l M) {R : Unit → Mem → Prop} (hR : ∀ v M, R v M → Q none M) {a0 : Nat} {x2 : Int32} {M : Mem} (h : T_X11_tidies_342 J R False n a0 x2 M) : AW X (RX11, cX11_tidies, 4, none, false, al, n) 0 0 342 [(0, .ref a0), (2, .int x2)] [] M Q := by
  unfold T_X11_tidies_342 at h
  refine a_iload_n dX11_tidies_342 rfl rfl ?_
  refine a_iconst (v := 4) dX11_tidies_343 (by decide) ?_
  refine a_icmp_ge 430 dX11_tidies_344 (by decide) (fun c1 => ?_) (fun c1 => ?_)
  · replace h := ite_t c1 h
    refine a_iconst (v := 0) dX11_tidies_430 (by decide) ?_
    refine a_istore_n dX11_tidies_431 rfl (Nat.le_of_ble_eq_true rfl) (lv2 := [(2, .int 0), (0, .ref a0)]) rfl ?_
    exact a_lv (lv2 := [(0, .ref a0), (2, .int 0)]) (fa_cons rfl (fa_cons rfl fa_nil)) (hJ _ _ _ h)
  · replace h := ite_f c1 h
    refine a_iconst (v := 0) dX11_tidies_347 (by decide) ?_
    refine a_istore_n dX11_tidies_348 rfl (Nat.le_of_ble_eq_true rfl) (lv2 := [(3, .int 0), (0, .ref a0), (2, .int x2)]) rfl ?_
    exact a_lv (lv2 := [(0, .ref a0), (2, .int x2), (3, .int 0)]) (fa_cons rfl (fa_cons rfl (fa_cons rfl fa_nil))) (hJ _ _ _ h)
set_option maxHeartbeats 4000000 in
set_option maxRecDepth 100000 in
noncomputable def T_X11_tidies_349.{u} {α : Sort u} (J : Nat → List Value → Mem → α) (R : Unit → Mem → α) (N : α) (n : Nat) (a0 : Nat) (x2 : Int32) (x3 : Int32) (M : Mem) : α := gd (fO M a0 11) N (bnd (M.2.2.2.2 a0 19) N (fun r3 => gd (fA M r3 1 x2) N (if (M.2.2.1 r3 (x2.toNatClampNeg)) ≤ x3 then J 342 [.ref a0, .int (x2 + 1)] M else bnd (M.2.2.2.2 a0 17) N (fun r10 => gd (fA M r10 1 ((200 * x2) + x3)) N (if (M.2.2.1 r10 (((200 * x2) + x3).toNatClampNeg)) = 0 then J 349 [.ref a0, .int x2, .int (x3 + 1)] M else bnd (M.2.2.2.2 a0 18) N (fun r17 => gd (fA M r17 1 ((200 * x2) + x3)) N (if (M.2.2.1 r17 (((200 * x2) + x3).toNatClampNeg)) < 0 then J 349 [.ref a0, .int x2, .int (x3 + 1)] M else bnd (M.2.2.2.2 a0 6) N (fun r24 => gd (fA M r24 1 (M.2.2.1 r17 (((200 * x2) + x3).toNatClampNeg))) N (J 349 [.ref a0, .int x2, .int (x3 + 1)] (wI M r17 (((200 * x2) + x3).toNatClampNeg) (M.2.2.1 r24 ((M.2.2.1 r17 (((200 * x2) + x3).toNatClampNeg)).toNatClampNeg))))))))))))
set_option maxHeartbeats 4000000 in
set_option maxRecDepth 100000 in
theorem n_X11_tidies_349.{u, v} {α : Sort u} {β : Sort v} (h : α → β) (J : Nat → List Value → Mem → α) (R : Unit → Mem → α) (N : α) (n : Nat) (a0 : Nat) (x2 : Int32) (x3 : Int32) (M : Mem) : h (T_X11_tidies_349 J R N n a0 x2 x3 M) = T_X11_tidies_349 (fun c l M => h (J c l M)) (fun v M => h (R v M)) (h N) n a0 x2 x3 M := by
  simp only [T_X11_tidies_349, nat_ite h, nat_gd h, nat_bnd h, nat_bnd2 h]
set_option maxHeartbeats 4000000 in
set_option maxRecDepth 100000 in
theorem w_X11_tidies_349 {X : Nat × (Nat → Int32)} {al : Bool} {n : Nat} {Q : Option Value → Mem → Prop} {J : Nat → List Value → Mem → Prop} (hJ : ∀ c l M, J c l M → PW_X11_tidies X al n Q c l M) {R : Unit → Mem → Prop} (hR : ∀ v M, R v M → Q none M) {a0 : Nat} {x2 : Int32} {x3 : Int32} {M : Mem} (h : T_X11_tidies_349 J R False n a0 x2 x3 M) : AW X (RX11, cX11_tidies, 4, none, false, al, n) 0 0 349 [(0, .ref a0), (2, .int x2), (3, .int x3)] [] M Q := by
  unfold T_X11_tidies_349 at h
  refine a_iload_n dX11_tidies_349 rfl rfl ?_
  refine a_aload_n dX11_tidies_350 rfl rfl ?_
  obtain ⟨⟨ga1, gs2⟩, h⟩ := gd_t h
  obtain ⟨r3, e4, h⟩ := bnd_t h
  refine a_get (v := .ref r3) dX11_tidies_351 fl_11_56 ga1 gs2 (gvR e4 rfl) ?_
  refine a_iload_n dX11_tidies_354 rfl rfl ?_
  obtain ⟨⟨ga5, gn6, gs7, gi8⟩, h⟩ := gd_t h
  refine a_iaload dX11_tidies_355 ga5 gs7 gi8 ?_
  refine a_icmp_ge 424 dX11_tidies_356 (by decide) (fun c9 => ?_) (fun c9 => ?_)
  · replace h := ite_t c9 h
    refine a_iinc (v := (x2 + 1)) dX11_tidies_424 rfl (by first | rfl | decide) (Nat.le_of_ble_eq_true rfl) (lv2 := [(2, .int (x2 + 1)), (0, .ref a0), (3, .int x3)]) rfl ?_
    refine a_goto 342 dX11_tidies_427 (by decide) ?_
    exact a_lv (lv2 := [(0, .ref a0), (2, .int (x2 + 1))]) (fa_cons rfl (fa_cons rfl fa_nil)) (hJ _ _ _ h)
  · replace h := ite_f c9 h
    refine a_aload_n dX11_tidies_359 rfl rfl ?_
    obtain ⟨r10, e11, h⟩ := bnd_t h
    refine a_get (v := .ref r10) dX11_tidies_360 fl_11_50 ga1 gs2 (gvR e11 rfl) ?_
    refine a_sipush (v := 200) dX11_tidies_363 (by decide) ?_
    refine a_iload_n dX11_tidies_366 rfl rfl ?_
    refine a_imul dX11_tidies_367 ?_
    refine a_iload_n dX11_tidies_368 rfl rfl ?_
    refine a_iadd dX11_tidies_369 ?_
    obtain ⟨⟨ga12, gn13, gs14, gi15⟩, h⟩ := gd_t h
    refine a_iaload dX11_tidies_370 ga12 gs14 gi15 ?_
    refine a_if_eq 418 dX11_tidies_371 (by decide) (fun c16 => ?_) (fun c16 => ?_)
    · replace h := ite_t c16 h
      refine a_iinc (v := (x3 + 1)) dX11_tidies_418 rfl (by first | rfl | decide) (Nat.le_of_ble_eq_true rfl) (lv2 := [(3, .int (x3 + 1)), (0, .ref a0), (2, .int x2)]) rfl ?_
      refine a_goto 349 dX11_tidies_421 (by decide) ?_
      exact a_lv (lv2 := [(0, .ref a0), (2, .int x2), (3, .int (x3 + 1))]) (fa_cons rfl (fa_cons rfl (fa_cons rfl fa_nil))) (hJ _ _ _ h)
    · replace h := ite_f c16 h
      refine a_aload_n dX11_tidies_374 rfl rfl ?_
      obtain ⟨r17, e18, h⟩ := bnd_t h
      refine a_get (v := .ref r17) dX11_tidies_375 fl_11_53 ga1 gs2 (gvR e18 rfl) ?_
      refine a_sipush (v := 200) dX11_tidies_378 (by decide) ?_
      refine a_iload_n dX11_tidies_381 rfl rfl ?_
      refine a_imul dX11_tidies_382 ?_
      refine a_iload_n dX11_tidies_383 rfl rfl ?_
      refine a_iadd dX11_tidies_384 ?_
      obtain ⟨⟨ga19, gn20, gs21, gi22⟩, h⟩ := gd_t h
      refine a_iaload dX11_tidies_385 ga19 gs21 gi22 ?_
      refine a_if_lt 418 dX11_tidies_386 (by decide) (fun c23 => ?_) (fun c23 => ?_)
      · replace h := ite_t c23 h
        refine a_iinc (v := (x3 + 1)) dX11_tidies_418 rfl (by first | rfl | decide) (Nat.le_of_ble_eq_true rfl) (lv2 := [(3, .int (x3 + 1)), (0, .ref a0), (2, .int x2)]) rfl ?_
        refine a_goto 349 dX11_tidies_421 (by decide) ?_
        exact a_lv (lv2 := [(0, .ref a0), (2, .int x2), (3, .int (x3 + 1))]) (fa_cons rfl (fa_cons rfl (fa_cons rfl fa_nil))) (hJ _ _ _ h)
      · replace h := ite_f c23 h
        refine a_aload_n dX11_tidies_389 rfl rfl ?_
        refine a_get (v := .ref r17) dX11_tidies_390 fl_11_53 ga1 gs2 (gvR e18 rfl) ?_
        refine a_sipush (v := 200) dX11_tidies_393 (by decide) ?_
        refine a_iload_n dX11_tidies_396 rfl rfl ?_
        refine a_imul dX11_tidies_397 ?_
        refine a_iload_n dX11_tidies_398 rfl rfl ?_
        refine a_iadd dX11_tidies_399 ?_
        refine a_aload_n dX11_tidies_400 rfl rfl ?_
        obtain ⟨r24, e25, h⟩ := bnd_t h
        refine a_get (v := .ref r24) dX11_tidies_401 fl_11_29 ga1 gs2 (gvR e25 rfl) ?_
        refine a_aload_n dX11_tidies_404 rfl rfl ?_
        refine a_get (v := .ref r17) dX11_tidies_405 fl_11_53 ga1 gs2 (gvR e18 rfl) ?_
        refine a_sipush (v := 200) dX11_tidies_408 (by decide) ?_
        refine a_iload_n dX11_tidies_411 rfl rfl ?_
        refine a_imul dX11_tidies_412 ?_
        refine a_iload_n dX11_tidies_413 rfl rfl ?_
        refine a_iadd dX11_tidies_414 ?_
        refine a_iaload dX11_tidies_415 ga19 gs21 gi22 ?_
        obtain ⟨⟨ga26, gn27, gs28, gi29⟩, h⟩ := gd_t h
        refine a_iaload dX11_tidies_416 ga26 gs28 gi29 ?_
        refine a_iastore dX11_tidies_417 ga19 gs21 gi22 ?_
        refine a_iinc (v := (x3 + 1)) dX11_tidies_418 rfl (by first | rfl | decide) (Nat.le_of_ble_eq_true rfl) (lv2 := [(3, .int (x3 + 1)), (0, .ref a0), (2, .int x2)]) rfl ?_
        refine a_goto 349 dX11_tidies_421 (by decide) ?_
        exact a_lv (lv2 := [(0, .ref a0), (2, .int x2), (3, .int (x3 + 1))]) (fa_cons rfl (fa_cons rfl (fa_cons rfl fa_nil))) (hJ _ _ _ h)
set_option maxHeartbeats 4000000 in
set_option maxRecDepth 100000 in
noncomputable def T_X11_tidies_432.{u} {α : Sort u} (J : Nat → List Value → Mem → α) (R : Unit → Mem → α) (N : α) (n : Nat) (a0 : Nat) (x2 : Int32) (M : Mem) : α := gd (fO M a0 11) N (if (M.2.2.1 a0 24) ≤ x2 then R () M else bnd (M.2.2.2.2 a0 20) N (fun r4 => gd (fA M r4 1 x2) N (if (M.2.2.1 r4 (x2.toNatClampNeg)) = 0 then J 432 [.ref a0, .int (x2 + 1)] M else bnd (M.2.2.2.2 a0 21) N (fun r11 => gd (fA M r11 1 x2) N (if (M.2.2.1 r11 (x2.toNatClampNeg)) < 0 then J 432 [.ref a0, .int (x2 + 1)] M else bnd (M.2.2.2.2 a0 6) N (fun r18 => gd (fA M r18 1 (M.2.2.1 r11 (x2.toNatClampNeg))) N (J 432 [.ref a0, .int (x2 + 1)] (wI M r11 (x2.toNatClampNeg) (M.2.2.1 r18 ((M.2.2.1 r11 (x2.toNatClampNeg)).toNatClampNeg))))))))))
set_option maxHeartbeats 4000000 in
set_option maxRecDepth 100000 in
theorem n_X11_tidies_432.{u, v} {α : Sort u} {β : Sort v} (h : α → β) (J : Nat → List Value → Mem → α) (R : Unit → Mem → α) (N : α) (n : Nat) (a0 : Nat) (x2 : Int32) (M : Mem) : h (T_X11_tidies_432 J R N n a0 x2 M) = T_X11_tidies_432 (fun c l M => h (J c l M)) (fun v M => h (R v M)) (h N) n a0 x2 M := by
  simp only [T_X11_tidies_432, nat_ite h, nat_gd h, nat_bnd h, nat_bnd2 h]
set_option maxHeartbeats 4000000 in
set_option maxRecDepth 100000 in
theorem w_X11_tidies_432 {X : Nat × (Nat → Int32)} {al : Bool} {n : Nat} {Q : Option Value → Mem → Prop} {J : Nat → List Value → Mem → Prop} (hJ : ∀ c l M, J c l M → PW_X11_tidies X al n Q c l M) {R : Unit → Mem → Prop} (hR : ∀ v M, R v M → Q none M) {a0 : Nat} {x2 : Int32} {M : Mem} (h : T_X11_tidies_432 J R False n a0 x2 M) : AW X (RX11, cX11_tidies, 4, none, false, al, n) 0 0 432 [(0, .ref a0), (2, .int x2)] [] M Q := by
  unfold T_X11_tidies_432 at h
  refine a_iload_n dX11_tidies_432 rfl rfl ?_
  refine a_aload_n dX11_tidies_433 rfl rfl ?_
  obtain ⟨⟨ga1, gs2⟩, h⟩ := gd_t h
  refine a_get (v := .int (M.2.2.1 a0 24)) dX11_tidies_434 fl_11_151 ga1 gs2 rfl ?_
  refine a_icmp_ge 481 dX11_tidies_437 (by decide) (fun c3 => ?_) (fun c3 => ?_)
  · replace h := ite_t c3 h
    exact a_vret dX11_tidies_481 rfl (hR _ _ h)
  · replace h := ite_f c3 h
    refine a_aload_n dX11_tidies_440 rfl rfl ?_
    obtain ⟨r4, e5, h⟩ := bnd_t h
    refine a_get (v := .ref r4) dX11_tidies_441 fl_11_59 ga1 gs2 (gvR e5 rfl) ?_
    refine a_iload_n dX11_tidies_444 rfl rfl ?_
    obtain ⟨⟨ga6, gn7, gs8, gi9⟩, h⟩ := gd_t h
    refine a_iaload dX11_tidies_445 ga6 gs8 gi9 ?_
    refine a_if_eq 475 dX11_tidies_446 (by decide) (fun c10 => ?_) (fun c10 => ?_)
    · replace h := ite_t c10 h
      refine a_iinc (v := (x2 + 1)) dX11_tidies_475 rfl (by first | rfl | decide) (Nat.le_of_ble_eq_true rfl) (lv2 := [(2, .int (x2 + 1)), (0, .ref a0)]) rfl ?_
      refine a_goto 432 dX11_tidies_478 (by decide) ?_
      exact a_lv (lv2 := [(0, .ref a0), (2, .int (x2 + 1))]) (fa_cons rfl (fa_cons rfl fa_nil)) (hJ _ _ _ h)
    · replace h := ite_f c10 h
      refine a_aload_n dX11_tidies_449 rfl rfl ?_
      obtain ⟨r11, e12, h⟩ := bnd_t h
      refine a_get (v := .ref r11) dX11_tidies_450 fl_11_62 ga1 gs2 (gvR e12 rfl) ?_
      refine a_iload_n dX11_tidies_453 rfl rfl ?_
      obtain ⟨⟨ga13, gn14, gs15, gi16⟩, h⟩ := gd_t h
      refine a_iaload dX11_tidies_454 ga13 gs15 gi16 ?_
      refine a_if_lt 475 dX11_tidies_455 (by decide) (fun c17 => ?_) (fun c17 => ?_)
      · replace h := ite_t c17 h
        refine a_iinc (v := (x2 + 1)) dX11_tidies_475 rfl (by first | rfl | decide) (Nat.le_of_ble_eq_true rfl) (lv2 := [(2, .int (x2 + 1)), (0, .ref a0)]) rfl ?_
        refine a_goto 432 dX11_tidies_478 (by decide) ?_
        exact a_lv (lv2 := [(0, .ref a0), (2, .int (x2 + 1))]) (fa_cons rfl (fa_cons rfl fa_nil)) (hJ _ _ _ h)
      · replace h := ite_f c17 h
        refine a_aload_n dX11_tidies_458 rfl rfl ?_
        refine a_get (v := .ref r11) dX11_tidies_459 fl_11_62 ga1 gs2 (gvR e12 rfl) ?_
        refine a_iload_n dX11_tidies_462 rfl rfl ?_
        refine a_aload_n dX11_tidies_463 rfl rfl ?_
        obtain ⟨r18, e19, h⟩ := bnd_t h
        refine a_get (v := .ref r18) dX11_tidies_464 fl_11_29 ga1 gs2 (gvR e19 rfl) ?_
        refine a_aload_n dX11_tidies_467 rfl rfl ?_
        refine a_get (v := .ref r11) dX11_tidies_468 fl_11_62 ga1 gs2 (gvR e12 rfl) ?_
        refine a_iload_n dX11_tidies_471 rfl rfl ?_
        refine a_iaload dX11_tidies_472 ga13 gs15 gi16 ?_
        obtain ⟨⟨ga20, gn21, gs22, gi23⟩, h⟩ := gd_t h
        refine a_iaload dX11_tidies_473 ga20 gs22 gi23 ?_
        refine a_iastore dX11_tidies_474 ga13 gs15 gi16 ?_
        refine a_iinc (v := (x2 + 1)) dX11_tidies_475 rfl (by first | rfl | decide) (Nat.le_of_ble_eq_true rfl) (lv2 := [(2, .int (x2 + 1)), (0, .ref a0)]) rfl ?_
        refine a_goto 432 dX11_tidies_478 (by decide) ?_
        exact a_lv (lv2 := [(0, .ref a0), (2, .int (x2 + 1))]) (fa_cons rfl (fa_cons rfl fa_nil)) (hJ _ _ _ h)
set_option maxHeartbeats 4000000 in
set_option maxRecDepth 100000 in
noncomputable def st_X11_tidies (n : Nat) (s : Sg) : Option (Sg ⊕ (Unit × Mem)) := if s.1 = 0 then vR s.2.1 none (fun a0 t => vE t none (T_X11_tidies_0 (fun c l M => some (.inl (c, l, M))) (fun v M => some (.inr (v, M))) none n a0 s.2.2)) else if s.1 = 20 then vR s.2.1 none (fun a0 t => vI t none (fun x1 t => vE t none (T_X11_tidies_20 (fun c l M => some (.inl (c, l, M))) (fun v M => some (.inr (v, M))) none n a0 x1 s.2.2))) else if s.1 = 43 then vR s.2.1 none (fun a0 t => vI t none (fun x1 t => vE t none (T_X11_tidies_43 (fun c l M => some (.inl (c, l, M))) (fun v M => some (.inr (v, M))) none n a0 x1 s.2.2))) else if s.1 = 77 then vR s.2.1 none (fun a0 t => vI t none (fun x1 t => vE t none (T_X11_tidies_77 (fun c l M => some (.inl (c, l, M))) (fun v M => some (.inr (v, M))) none n a0 x1 s.2.2))) else if s.1 = 84 then vR s.2.1 none (fun a0 t => vI t none (fun x1 t => vI t none (fun x2 t => vE t none (T_X11_tidies_84 (fun c l M => some (.inl (c, l, M))) (fun v M => some (.inr (v, M))) none n a0 x1 x2 s.2.2)))) else if s.1 = 154 then vR s.2.1 none (fun a0 t => vI t none (fun x1 t => vE t none (T_X11_tidies_154 (fun c l M => some (.inl (c, l, M))) (fun v M => some (.inr (v, M))) none n a0 x1 s.2.2))) else if s.1 = 207 then vR s.2.1 none (fun a0 t => vI t none (fun x1 t => vI t none (fun x2 t => vE t none (T_X11_tidies_207 (fun c l M => some (.inl (c, l, M))) (fun v M => some (.inr (v, M))) none n a0 x1 x2 s.2.2)))) else if s.1 = 259 then vR s.2.1 none (fun a0 t => vI t none (fun x1 t => vI t none (fun x2 t => vI t none (fun xs0 t => vI t none (fun xs1 t => vR t none (fun ra2 t => vI t none (fun xs3 t => vR t none (fun ra4 t => vE t none (T_X11_tidies_259 (fun c l M => some (.inl (c, l, M))) (fun v M => some (.inr (v, M))) none n a0 x1 x2 xs0 xs1 ra2 xs3 ra4 s.2.2))))))))) else if s.1 = 296 then vR s.2.1 none (fun a0 t => vI t none (fun x2 t => vE t none (T_X11_tidies_296 (fun c l M => some (.inl (c, l, M))) (fun v M => some (.inr (v, M))) none n a0 x2 s.2.2))) else if s.1 = 342 then vR s.2.1 none (fun a0 t => vI t none (fun x2 t => vE t none (T_X11_tidies_342 (fun c l M => some (.inl (c, l, M))) (fun v M => some (.inr (v, M))) none n a0 x2 s.2.2))) else if s.1 = 349 then vR s.2.1 none (fun a0 t => vI t none (fun x2 t => vI t none (fun x3 t => vE t none (T_X11_tidies_349 (fun c l M => some (.inl (c, l, M))) (fun v M => some (.inr (v, M))) none n a0 x2 x3 s.2.2)))) else if s.1 = 432 then vR s.2.1 none (fun a0 t => vI t none (fun x2 t => vE t none (T_X11_tidies_432 (fun c l M => some (.inl (c, l, M))) (fun v M => some (.inr (v, M))) none n a0 x2 s.2.2))) else none
noncomputable abbrev g_X11_tidies_0 (n : Nat) (a0 : Nat) (M : Mem) : Option (Unit × Mem) := lp (st_X11_tidies n) (0, [.ref a0], M)
set_option maxHeartbeats 4000000 in
set_option maxRecDepth 100000 in
theorem ge_X11_tidies_0 (n : Nat) (a0 : Nat) (M : Mem) : g_X11_tidies_0 n a0 M = T_X11_tidies_0 (fun c l M => lp (st_X11_tidies n) (c, l, M)) (fun v M => some (v, M)) none n a0 M := (lp_eq _ _).trans (n_X11_tidies_0 (lpK (st_X11_tidies n)) (fun c l M => some (.inl (c, l, M))) (fun v M => some (.inr (v, M))) none n a0 M)
noncomputable abbrev g_X11_tidies_20 (n : Nat) (a0 : Nat) (x1 : Int32) (M : Mem) : Option (Unit × Mem) := lp (st_X11_tidies n) (20, [.ref a0, .int x1], M)
set_option maxHeartbeats 4000000 in
set_option maxRecDepth 100000 in
theorem ge_X11_tidies_20 (n : Nat) (a0 : Nat) (x1 : Int32) (M : Mem) : g_X11_tidies_20 n a0 x1 M = T_X11_tidies_20 (fun c l M => lp (st_X11_tidies n) (c, l, M)) (fun v M => some (v, M)) none n a0 x1 M := (lp_eq _ _).trans (n_X11_tidies_20 (lpK (st_X11_tidies n)) (fun c l M => some (.inl (c, l, M))) (fun v M => some (.inr (v, M))) none n a0 x1 M)
noncomputable abbrev g_X11_tidies_43 (n : Nat) (a0 : Nat) (x1 : Int32) (M : Mem) : Option (Unit × Mem) := lp (st_X11_tidies n) (43, [.ref a0, .int x1], M)
set_option maxHeartbeats 4000000 in
set_option maxRecDepth 100000 in
theorem ge_X11_tidies_43 (n : Nat) (a0 : Nat) (x1 : Int32) (M : Mem) : g_X11_tidies_43 n a0 x1 M = T_X11_tidies_43 (fun c l M => lp (st_X11_tidies n) (c, l, M)) (fun v M => some (v, M)) none n a0 x1 M := (lp_eq _ _).trans (n_X11_tidies_43 (lpK (st_X11_tidies n)) (fun c l M => some (.inl (c, l, M))) (fun v M => some (.inr (v, M))) none n a0 x1 M)
noncomputable abbrev g_X11_tidies_77 (n : Nat) (a0 : Nat) (x1 : Int32) (M : Mem) : Option (Unit × Mem) := lp (st_X11_tidies n) (77, [.ref a0, .int x1], M)
set_option maxHeartbeats 4000000 in
set_option maxRecDepth 100000 in
theorem ge_X11_tidies_77 (n : Nat) (a0 : Nat) (x1 : Int32) (M : Mem) : g_X11_tidies_77 n a0 x1 M = T_X11_tidies_77 (fun c l M => lp (st_X11_tidies n) (c, l, M)) (fun v M => some (v, M)) none n a0 x1 M := (lp_eq _ _).trans (n_X11_tidies_77 (lpK (st_X11_tidies n)) (fun c l M => some (.inl (c, l, M))) (fun v M => some (.inr (v, M))) none n a0 x1 M)
noncomputable abbrev g_X11_tidies_84 (n : Nat) (a0 : Nat) (x1 : Int32) (x2 : Int32) (M : Mem) : Option (Unit × Mem) := lp (st_X11_tidies n) (84, [.ref a0, .int x1, .int x2], M)
set_option maxHeartbeats 4000000 in
set_option maxRecDepth 100000 in
theorem ge_X11_tidies_84 (n : Nat) (a0 : Nat) (x1 : Int32) (x2 : Int32) (M : Mem) : g_X11_tidies_84 n a0 x1 x2 M = T_X11_tidies_84 (fun c l M => lp (st_X11_tidies n) (c, l, M)) (fun v M => some (v, M)) none n a0 x1 x2 M := (lp_eq _ _).trans (n_X11_tidies_84 (lpK (st_X11_tidies n)) (fun c l M => some (.inl (c, l, M))) (fun v M => some (.inr (v, M))) none n a0 x1 x2 M)
noncomputable abbrev g_X11_tidies_154 (n : Nat) (a0 : Nat) (x1 : Int32) (M : Mem) : Option (Unit × Mem) := lp (st_X11_tidies n) (154, [.ref a0, .int x1], M)
set_option maxHeartbeats 4000000 in
set_option maxRecDepth 100000 in
theorem ge_X11_tidies_154 (n : Nat) (a0 : Nat) (x1 : Int32) (M : Mem) : g_X11_tidies_154 n a0 x1 M = T_X11_tidies_154 (fun c l M => lp (st_X11_tidies n) (c, l, M)) (fun v M => some (v, M)) none n a0 x1 M := (lp_eq _ _).trans (n_X11_tidies_154 (lpK (st_X11_tidies n)) (fun c l M => some (.inl (c, l, M))) (fun v M => some (.inr (v, M))) none n a0 x1 M)
noncomputable abbrev g_X11_tidies_207 (n : Nat) (a0 : Nat) (x1 : Int32) (x2 : Int32) (M : Mem) : Option (Unit × Mem) := lp (st_X11_tidies n) (207, [.ref a0, .int x1, .int x2], M)
set_option maxHeartbeats 4000000 in
set_option maxRecDepth 100000 in
theorem ge_X11_tidies_207 (n : Nat) (a0 : Nat) (x1 : Int32) (x2 : Int32) (M : Mem) : g_X11_tidies_207 n a0 x1 x2 M = T_X11_tidies_207 (fun c l M => lp (st_X11_tidies n) (c, l, M)) (fun v M => some (v, M)) none n a0 x1 x2 M := (lp_eq _ _).trans (n_X11_tidies_207 (lpK (st_X11_tidies n)) (fun c l M => some (.inl (c, l, M))) (fun v M => some (.inr (v, M))) none n a0 x1 x2 M)
noncomputable abbrev g_X11_tidies_259 (n : Nat) (a0 : Nat) (x1 : Int32) (x2 : Int32) (xs0 : Int32) (xs1 : Int32) (ra2 : Nat) (xs3 : Int32) (ra4 : Nat) (M : Mem) : Option (Unit × Mem) := lp (st_X11_tidies n) (259, [.ref a0, .int x1, .int x2, .int xs0, .int xs1, .ref ra2, .int xs3, .ref ra4], M)
set_option maxHeartbeats 4000000 in
set_option maxRecDepth 100000 in
theorem ge_X11_tidies_259 (n : Nat) (a0 : Nat) (x1 : Int32) (x2 : Int32) (xs0 : Int32) (xs1 : Int32) (ra2 : Nat) (xs3 : Int32) (ra4 : Nat) (M : Mem) : g_X11_tidies_259 n a0 x1 x2 xs0 xs1 ra2 xs3 ra4 M = T_X11_tidies_259 (fun c l M => lp (st_X11_tidies n) (c, l, M)) (fun v M => some (v, M)) none n a0 x1 x2 xs0 xs1 ra2 xs3 ra4 M := (lp_eq _ _).trans (n_X11_tidies_259 (lpK (st_X11_tidies n)) (fun c l M => some (.inl (c, l, M))) (fun v M => some (.inr (v, M))) none n a0 x1 x2 xs0 xs1 ra2 xs3 ra4 M)
noncomputable abbrev g_X11_tidies_296 (n : Nat) (a0 : Nat) (x2 : Int32) (M : Mem) : Option (Unit × Mem) := lp (st_X11_tidies n) (296, [.ref a0, .int x2], M)
set_option maxHeartbeats 4000000 in
set_option maxRecDepth 100000 in
theorem ge_X11_tidies_296 (n : Nat) (a0 : Nat) (x2 : Int32) (M : Mem) : g_X11_tidies_296 n a0 x2 M = T_X11_tidies_296 (fun c l M => lp (st_X11_tidies n) (c, l, M)) (fun v M => some (v, M)) none n a0 x2 M := (lp_eq _ _).trans (n_X11_tidies_296 (lpK (st_X11_tidies n)) (fun c l M => some (.inl (c, l, M))) (fun v M => some (.inr (v, M))) none n a0 x2 M)
noncomputable abbrev g_X11_tidies_342 (n : Nat) (a0 : Nat) (x2 : Int32) (M : Mem) : Option (Unit × Mem) := lp (st_X11_tidies n) (342, [.ref a0, .int x2], M)
set_option maxHeartbeats 4000000 in
set_option maxRecDepth 100000 in
theorem ge_X11_tidies_342 (n : Nat) (a0 : Nat) (x2 : Int32) (M : Mem) : g_X11_tidies_342 n a0 x2 M = T_X11_tidies_342 (fun c l M => lp (st_X11_tidies n) (c, l, M)) (fun v M => some (v, M)) none n a0 x2 M := (lp_eq _ _).trans (n_X11_tidies_342 (lpK (st_X11_tidies n)) (fun c l M => some (.inl (c, l, M))) (fun v M => some (.inr (v, M))) none n a0 x2 M)
noncomputable abbrev g_X11_tidies_349 (n : Nat) (a0 : Nat) (x2 : Int32) (x3 : Int32) (M : Mem) : Option (Unit × Mem) := lp (st_X11_tidies n) (349, [.ref a0, .int x2, .int x3], M)
set_option maxHeartbeats 4000000 in
set_option maxRecDepth 100000 in
theorem ge_X11_tidies_349 (n : Nat) (a0 : Nat) (x2 : Int32) (x3 : Int32) (M : Mem) : g_X11_tidies_349 n a0 x2 x3 M = T_X11_tidies_349 (fun c l M => lp (st_X11_tidies n) (c, l, M)) (fun v M => some (v, M)) none n a0 x2 x3 M := (lp_eq _ _).trans (n_X11_tidies_349 (lpK (st_X11_tidies n)) (fun c l M => some (.inl (c, l, M))) (fun v M => some (.inr (v, M))) none n a0 x2 x3 M)
noncomputable abbrev g_X11_tidies_432 (n : Nat) (a0 : Nat) (x2 : Int32) (M : Mem) : Option (Unit × Mem) := lp (st_X11_tidies n) (432, [.ref a0, .int x2], M)
set_option maxHeartbeats 4000000 in
set_option maxRecDepth 100000 in
theorem ge_X11_tidies_432 (n : Nat) (a0 : Nat) (x2 : Int32) (M : Mem) : g_X11_tidies_432 n a0 x2 M = T_X11_tidies_432 (fun c l M => lp (st_X11_tidies n) (c, l, M)) (fun v M => some (v, M)) none n a0 x2 M := (lp_eq _ _).trans (n_X11_tidies_432 (lpK (st_X11_tidies n)) (fun c l M => some (.inl (c, l, M))) (fun v M => some (.inr (v, M))) none n a0 x2 M)
noncomputable def b_X11_tidies (n : Nat) (a0 : Nat) (M : Mem) : Option (Unit × Mem) := g_X11_tidies_0 n a0 M
set_option maxHeartbeats 4000000 in
set_option maxRecDepth 100000 in
theorem sb_X11_tidies {X : Nat × (Nat → Int32)} {al : Bool} {n : Nat} {a0 : Nat} {M : Mem} {v : Unit} {M1 : Mem} (h : b_X11_tidies n a0 M = some (v, M1)) : AE yX11_tidies cX11_tidies 4 none al n X [.ref a0] M none M1 := by
  refine AM.of false (by decide +kernel) (by intro h; cases h) (Nat.le_of_ble_eq_true rfl) ?_
  refine lp_snd (P := fun s r => PW_X11_tidies X al n (fun v M2 => v = none ∧ M2 = r.2) s.1 s.2.1 s.2.2) ?_ h
  clear h
  rintro ⟨c, l, M⟩ r h
  unfold st_X11_tidies at h
  rcases ite_p h with ⟨e, h⟩ | ⟨e, h⟩
  · replace e : c = 0 := e
    subst e
    obtain ⟨a0, tt0, e, h⟩ := vR_p id h
    replace e : l = _ := e
    subst e
    obtain ⟨e, h⟩ := vE_p id h
    replace e : tt0 = [] := e
    subst e
    exact w_X11_tidies_0 (J := fun c l M => PW_X11_tidies X al n (fun v M2 => v = none ∧ M2 = r.2) c l M) (R := fun v M => (v, M) = r) (fun _ _ _ h => h) (fun v M h => by cases h; exact ⟨rfl, rfl⟩) ((n_X11_tidies_0 (lpP (fun (s : Sg) (r : Unit × Mem) => PW_X11_tidies X al n (fun v M2 => v = none ∧ M2 = r.2) s.1 s.2.1 s.2.2) r) (fun c l M => some (.inl (c, l, M))) (fun v M => some (.inr (v, M))) none n a0 M).mp h)
  rcases ite_p h with ⟨e, h⟩ | ⟨e, h⟩
  · replace e : c = 20 := e
    subst e
    obtain ⟨a0, tt0, e, h⟩ := vR_p id h
    replace e : l = _ := e
    subst e
    obtain ⟨x1, tt1, e, h⟩ := vI_p id h
    replace e : tt0 = _ := e
    subst e
    obtain ⟨e, h⟩ := vE_p id h
    replace e : tt1 = [] := e
    subst e
    exact w_X11_tidies_20 (J := fun c l M => PW_X11_tidies X al n (fun v M2 => v = none ∧ M2 = r.2) c l M) (R := fun v M => (v, M) = r) (fun _ _ _ h => h) (fun v M h => by cases h; exact ⟨rfl, rfl⟩) ((n_X11_tidies_20 (lpP (fun (s : Sg) (r : Unit × Mem) => PW_X11_tidies X al n (fun v M2 => v = none ∧ M2 = r.2) s.1 s.2.1 s.2.2) r) (fun c l M => some (.inl (c, l, M))) (fun v M => some (.inr (v, M))) none n a0 x1 M).mp h)
  rcases ite_p h with ⟨e, h⟩ | ⟨e, h⟩
  · replace e : c = 43 := e
    subst e
    obtain ⟨a0, tt0, e, h⟩ := vR_p id h
    replace e : l = _ := e
    subst e
    obtain ⟨x1, tt1, e, h⟩ := vI_p id h
    replace e : tt0 = _ := e
    subst e
    obtain ⟨e, h⟩ := vE_p id h
    replace e : tt1 = [] := e
    subst e
    exact w_X11_tidies_43 (J := fun c l M => PW_X11_tidies X al n (fun v M2 => v = none ∧ M2 = r.2) c l M) (R := fun v M => (v, M) = r) (fun _ _ _ h => h) (fun v M h => by cases h; exact ⟨rfl, rfl⟩) ((n_X11_tidies_43 (lpP (fun (s : Sg) (r : Unit × Mem) => PW_X11_tidies X al n (fun v M2 => v = none ∧ M2 = r.2) s.1 s.2.1 s.2.2) r) (fun c l M => some (.inl (c, l, M))) (fun v M => some (.inr (v, M))) none n a0 x1 M).mp h)
  rcases ite_p h with ⟨e, h⟩ | ⟨e, h⟩
  · replace e : c = 77 := e
    subst e
    obtain ⟨a0, tt0, e, h⟩ := vR_p id h
    replace e : l = _ := e
    subst e
    obtain ⟨x1, tt1, e, h⟩ := vI_p id h
    replace e : tt0 = _ := e
    subst e
    obtain ⟨e, h⟩ := vE_p id h
    replace e : tt1 = [] := e
    subst e
    exact w_X11_tidies_77 (J := fun c l M => PW_X11_tidies X al n (fun v M2 => v = none ∧ M2 = r.2) c l M) (R := fun v M => (v, M) = r) (fun _ _ _ h => h) (fun v M h => by cases h; exact ⟨rfl, rfl⟩) ((n_X11_tidies_77 (lpP (fun (s : Sg) (r : Unit × Mem) => PW_X11_tidies X al n (fun v M2 => v = none ∧ M2 = r.2) s.1 s.2.1 s.2.2) r) (fun c l M => some (.inl (c, l, M))) (fun v M => some (.inr (v, M))) none n a0 x1 M).mp h)
  rcases ite_p h with ⟨e, h⟩ | ⟨e, h⟩
  · replace e : c = 84 := e
    subst e
    obtain ⟨a0, tt0, e, h⟩ := vR_p id h
    replace e : l = _ := e
    subst e
    obtain ⟨x1, tt1, e, h⟩ := vI_p id h
    replace e : tt0 = _ := e
    subst e
    obtain ⟨x2, tt2, e, h⟩ := vI_p id h
    replace e : tt1 = _ := e
    subst e
    obtain ⟨e, h⟩ := vE_p id h
    replace e : tt2 = [] := e
    subst e
    exact w_X11_tidies_84 (J := fun c l M => PW_X11_tidies X al n (fun v M2 => v = none ∧ M2 = r.2) c l M) (R := fun v M => (v, M) = r) (fun _ _ _ h => h) (fun v M h => by cases h; exact ⟨rfl, rfl⟩) ((n_X11_tidies_84 (lpP (fun (s : Sg) (r : Unit × Mem) => PW_X11_tidies X al n (fun v M2 => v = none ∧ M2 = r.2) s.1 s.2.1 s.2.2) r) (fun c l M => some (.inl (c, l, M))) (fun v M => some (.inr (v, M))) none n a0 x1 x2 M).mp h)
  rcases ite_p h with ⟨e, h⟩ | ⟨e, h⟩
  · replace e : c = 154 := e
    subst e
    obtain ⟨a0, tt0, e, h⟩ := vR_p id h
    replace e : l = _ := e
    subst e
    obtain ⟨x1, tt1, e, h⟩ := vI_p id h
    replace e : tt0 = _ := e
    subst e
    obtain ⟨e, h⟩ := vE_p id h
    replace e : tt1 = [] := e
    subst e
    exact w_X11_tidies_154 (J := fun c l M => PW_X11_tidies X al n (fun v M2 => v = none ∧ M2 = r.2) c l M) (R := fun v M => (v, M) = r) (fun _ _ _ h => h) (fun v M h => by cases h; exact ⟨rfl, rfl⟩) ((n_X11_tidies_154 (lpP (fun (s : Sg) (r : Unit × Mem) => PW_X11_tidies X al n (fun v M2 => v = none ∧ M2 = r.2) s.1 s.2.1 s.2.2) r) (fun c l M => some (.inl (c, l, M))) (fun v M => some (.inr (v, M))) none n a0 x1 M).mp h)
  rcases ite_p h with ⟨e, h⟩ | ⟨e, h⟩
  · replace e : c = 207 := e
    subst e
    obtain ⟨a0, tt0, e, h⟩ := vR_p id h
    replace e : l = _ := e
    subst e
    obtain ⟨x1, tt1, e, h⟩ := vI_p id h
    replace e : tt0 = _ := e
    subst e
    obtain ⟨x2, tt2, e, h⟩ := vI_p id h
    replace e : tt1 = _ := e
    subst e
    obtain ⟨e, h⟩ := vE_p id h
    replace e : tt2 = [] := e
    subst e
    exact w_X11_tidies_207 (J := fun c l M => PW_X11_tidies X al n (fun v M2 => v = none ∧ M2 = r.2) c l M) (R := fun v M => (v, M) = r) (fun _ _ _ h => h) (fun v M h => by cases h; exact ⟨rfl, rfl⟩) ((n_X11_tidies_207 (lpP (fun (s : Sg) (r : Unit × Mem) => PW_X11_tidies X al n (fun v M2 => v = none ∧ M2 = r.2) s.1 s.2.1 s.2.2) r) (fun c l M => some (.inl (c, l, M))) (fun v M => some (.inr (v, M))) none n a0 x1 x2 M).mp h)
  rcases ite_p h with ⟨e, h⟩ | ⟨e, h⟩
  · replace e : c = 259 := e
    subst e
    obtain ⟨a0, tt0, e, h⟩ := vR_p id h
    replace e : l = _ := e
    subst e
    obtain ⟨x1, tt1, e, h⟩ := vI_p id h
    replace e : tt0 = _ := e
    subst e
    obtain ⟨x2, tt2, e, h⟩ := vI_p id h
    replace e : tt1 = _ := e
    subst e
    obtain ⟨xs0, tt3, e, h⟩ := vI_p id h
    replace e : tt2 = _ := e
    subst e
    obtain ⟨xs1, tt4, e, h⟩ := vI_p id h
    replace e : tt3 = _ := e
    subst e
    obtain ⟨ra2, tt5, e, h⟩ := vR_p id h
    replace e : tt4 = _ := e
    subst e
    obtain ⟨xs3, tt6, e, h⟩ := vI_p id h
    replace e : tt5 = _ := e
    subst e
    obtain ⟨ra4, tt7, e, h⟩ := vR_p id h
    replace e : tt6 = _ := e
    subst e
    obtain ⟨e, h⟩ := vE_p id h
    replace e : tt7 = [] := e
    subst e
    exact w_X11_tidies_259 (J := fun c l M => PW_X11_tidies X al n (fun v M2 => v = none ∧ M2 = r.2) c l M) (R := fun v M => (v, M) = r) (fun _ _ _ h => h) (fun v M h => by cases h; exact ⟨rfl, rfl⟩) ((n_X11_tidies_259 (lpP (fun (s : Sg) (r : Unit × Mem) => PW_X11_tidies X al n (fun v M2 => v = none ∧ M2 = r.2) s.1 s.2.1 s.2.2) r) (fun c l M => some (.inl (c, l, M))) (fun v M => some (.inr (v, M))) none n a0 x1 x2 xs0 xs1 ra2 xs3 ra4 M).mp h)
  rcases ite_p h with ⟨e, h⟩ | ⟨e, h⟩
  · replace e : c = 296 := e
    subst e
    obtain ⟨a0, tt0, e, h⟩ := vR_p id h
    replace e : l = _ := e
    subst e
    obtain ⟨x2, tt1, e, h⟩ := vI_p id h
    replace e : tt0 = _ := e
    subst e
    obtain ⟨e, h⟩ := vE_p id h
    replace e : tt1 = [] := e
    subst e
    exact w_X11_tidies_296 (J := fun c l M => PW_X11_tidies X al n (fun v M2 => v = none ∧ M2 = r.2) c l M) (R := fun v M => (v, M) = r) (fun _ _ _ h => h) (fun v M h => by cases h; exact ⟨rfl, rfl⟩) ((n_X11_tidies_296 (lpP (fun (s : Sg) (r : Unit × Mem) => PW_X11_tidies X al n (fun v M2 => v = none ∧ M2 = r.2) s.1 s.2.1 s.2.2) r) (fun c l M => some (.inl (c, l, M))) (fun v M => some (.inr (v, M))) none n a0 x2 M).mp h)
  rcases ite_p h with ⟨e, h⟩ | ⟨e, h⟩
  · replace e : c = 342 := e
    subst e
    obtain ⟨a0, tt0, e, h⟩ := vR_p id h
    replace e : l = _ := e
    subst e
    obtain ⟨x2, tt1, e, h⟩ := vI_p id h
    replace e : tt0 = _ := e
    subst e
    obtain ⟨e, h⟩ := vE_p id h
    replace e : tt1 = [] := e
    subst e
    exact w_X11_tidies_342 (J := fun c l M => PW_X11_tidies X al n (fun v M2 => v = none ∧ M2 = r.2) c l M) (R := fun v M => (v, M) = r) (fun _ _ _ h => h) (fun v M h => by cases h; exact ⟨rfl, rfl⟩) ((n_X11_tidies_342 (lpP (fun (s : Sg) (r : Unit × Mem) => PW_X11_tidies X al n (fun v M2 => v = none ∧ M2 = r.2) s.1 s.2.1 s.2.2) r) (fun c l M => some (.inl (c, l, M))) (fun v M => some (.inr (v, M))) none n a0 x2 M).mp h)
  rcases ite_p h with ⟨e, h⟩ | ⟨e, h⟩
  · replace e : c = 349 := e
    subst e
    obtain ⟨a0, tt0, e, h⟩ := vR_p id h
    replace e : l = _ := e
    subst e
    obtain ⟨x2, tt1, e, h⟩ := vI_p id h
    replace e : tt0 = _ := e
    subst e
    obtain ⟨x3, tt2, e, h⟩ := vI_p id h
    replace e : tt1 = _ := e
    subst e
    obtain ⟨e, h⟩ := vE_p id h
    replace e : tt2 = [] := e
    subst e
    exact w_X11_tidies_349 (J := fun c l M => PW_X11_tidies X al n (fun v M2 => v = none ∧ M2 = r.2) c l M) (R := fun v M => (v, M) = r) (fun _ _ _ h => h) (fun v M h => by cases h; exact ⟨rfl, rfl⟩) ((n_X11_tidies_349 (lpP (fun (s : Sg) (r : Unit × Mem) => PW_X11_tidies X al n (fun v M2 => v = none ∧ M2 = r.2) s.1 s.2.1 s.2.2) r) (fun c l M => some (.inl (c, l, M))) (fun v M => some (.inr (v, M))) none n a0 x2 x3 M).mp h)
  rcases ite_p h with ⟨e, h⟩ | ⟨e, h⟩
  · replace e : c = 432 := e
    subst e
    obtain ⟨a0, tt0, e, h⟩ := vR_p id h
    replace e : l = _ := e
    subst e
    obtain ⟨x2, tt1, e, h⟩ := vI_p id h
    replace e : tt0 = _ := e
    subst e
    obtain ⟨e, h⟩ := vE_p id h
    replace e : tt1 = [] := e
    subst e
    exact w_X11_tidies_432 (J := fun c l M => PW_X11_tidies X al n (fun v M2 => v = none ∧ M2 = r.2) c l M) (R := fun v M => (v, M) = r) (fun _ _ _ h => h) (fun v M h => by cases h; exact ⟨rfl, rfl⟩) ((n_X11_tidies_432 (lpP (fun (s : Sg) (r : Unit × Mem) => PW_X11_tidies X al n (fun v M2 => v = none ∧ M2 = r.2) s.1 s.2.1 s.2.2) r) (fun c l M => some (.inl (c, l, M))) (fun v M => some (.inr (v, M))) none n a0 x2 M).mp h)
  · exact h.elim

noncomputable abbrev f_X11_tidies := b_X11_tidies
theorem s_X11_tidies {X : Nat × (Nat → Int32)} {al : Bool} {n : Nat} {a0 : Nat} {M : Mem} {v : Unit} {M1 : Mem} (h : f_X11_tidies n a0 M = some (v, M1)) : AE yX11_tidies cX11_tidies 4 none al n X [.ref a0] M none M1 := sb_X11_tidies h
