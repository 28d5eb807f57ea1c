/-! METHODS AS FUNCTIONS, written by wip/gen/shallow.py -/
def ix_X11_provableBy (c : Nat) : List Nat := if c = 0 then [0, 1] else if c = 11 then [0, 1, 2, 3] else if c = 57 then [0, 1, 3, 4] else []
def PW_X11_provableBy (X : Nat × (Nat → Int32)) (al : Bool) (n : Nat) (Q : Option Value → Mem → Prop) (c : Nat) (l : List Value) (M : Mem) : Prop := AW X (RX11, cX11_provableBy, 5, (some .int), false, al, n) 0 0 c (List.zip (ix_X11_provableBy c) l) (l.drop (ix_X11_provableBy c).length) M Q
set_option maxHeartbeats 4000000 in
set_option maxRecDepth 100000 in
noncomputable def T_X11_provableBy_0.{u} {α : Sort u} (J : Nat → List Value → Mem → α) (R : Int32 → Mem → α) (N : α) (n : Nat) (a0 : Nat) (x1 : Int32) (M : Mem) : α := gd (fO M a0 11) N (bnd2 (cal n (fun n => f_X11_wordsOf n a0 (M.2.2.1 a0 16) M)) N (fun v3 M4 => J 11 [.ref a0, .int x1, .int v3, .int 0] M4))
set_option maxHeartbeats 4000000 in
set_option maxRecDepth 100000 in
theorem n_X11_provableBy_0.{u, v} {α : Sort u} {β : Sort v} (h : α → β) (J : Nat → List Value → Mem → α) (R : Int32 → Mem → α) (N : α) (n : Nat) (a0 : Nat) (x1 : Int32) (M : Mem) : h (T_X11_provableBy_0 J R N n a0 x1 M) = T_X11_provableBy_0 (fun c l M => h (J c l M)) (fun v M => h (R v M)) (h N) n a0 x1 M := by
  simp only [T_X11_provableBy_0, nat_ite h, nat_gd h, nat_bnd h, nat_bnd2 h]
set_option maxHeartbeats 4000000 in
set_option maxRecDepth 100000 in
theorem w_X11_provableBy_0 {X : Nat × (Nat → Int32)} {al : Bool} {n : Nat} {Q : Option Value → Mem → Prop} {J : Nat → List Value → Mem → Prop} (hJ : ∀ c l M, J c l M → PW_X11_provableBy X al n Q c l M) {R : Int32 → Mem → Prop} (hR : ∀ v M, R v M → Q (some (.int v)) M) {a0 : Nat} {x1 : Int32} {M : Mem} (h : T_X11_provableBy_0 J R False n a0 x1 M) : AW X (RX11, cX11_provableBy, 5, (some .int), false, al, n) 0 0 0 [(0, .ref a0), (1, .int x1)] [] M Q := by
  unfold T_X11_provableBy_0 at h
  refine a_aload_n dX11_provableBy_0 rfl rfl ?_
  refine a_aload_n dX11_provableBy_1 rfl rfl ?_
  obtain ⟨⟨ga1, gs2⟩, h⟩ := gd_t h
  refine a_get (v := .int (M.2.2.1 a0 16)) dX11_provableBy_2 fl_11_134 ga1 gs2 rfl ?_
  obtain ⟨v3, M4, e5, h⟩ := bnd2_t h
  obtain ⟨n6, en7, e5⟩ := cal_t e5
  refine e_callV (As := [.int (M.2.2.1 a0 16)]) (st := []) (a := a0) (ci := 11) false dX11_provableBy_5 mw_X11_wordsOf (Or.inl ⟨rfl, ml_X11_435⟩) im_X11_wordsOf se_X11_wordsOf (by decide) ga1 gs2 rfl (Nat.le_of_ble_eq_true rfl) en7 (s_X11_wordsOf e5) ?_
  refine a_istore_n dX11_provableBy_8 rfl (Nat.le_of_ble_eq_true rfl) (lv2 := [(2, .int v3), (0, .ref a0), (1, .int x1)]) rfl ?_
  refine a_iconst (v := 0) dX11_provableBy_9 (by decide) ?_
  refine a_istore_n dX11_provableBy_10 rfl (Nat.le_of_ble_eq_true rfl) (lv2 := [(3, .int 0), (2, .int v3), (0, .ref a0), (1, .int x1)]) rfl ?_
  exact a_lv (lv2 := [(0, .ref a0), (1, .int x1), (2, .int v3), (3, .int 0)]) (fa_cons rfl (fa_cons rfl (fa_cons rfl (fa_cons rfl fa_nil)))) (hJ _ _ _ h)
set_option maxHeartbeats 4000000 in
set_option maxRecDepth 100000 in
noncomputable def T_X11_provableBy_11.{u} {α : Sort u} (J : Nat → List Value → Mem → α) (R : Int32 → Mem → α) (N : α) (n : Nat) (a0 : Nat) (x1 : Int32) (x2 : Int32) (x3 : Int32) (M : Mem) : α := gd (fO M a0 11) N (if (M.2.2.1 a0 15) ≤ x3 then if x2 ≤ 40 then J 57 [.ref a0, .int x1, .int 0, .int 0] (wI M a0 24 0) else R (-4) M else bnd (M.2.2.2.2 a0 11) N (fun r5 => gd (fA M r5 1 x3) N (bnd2 (cal n (fun n => f_X11_wordsOf n a0 (M.2.2.1 r5 (x3.toNatClampNeg)) M)) N (fun v11 M12 => J 11 [.ref a0, .int x1, .int (x2 + v11), .int (x3 + 1)] M12))))
set_option maxHeartbeats 4000000 in
set_option maxRecDepth 100000 in
theorem n_X11_provableBy_11.{u, v} {α : Sort u} {β : Sort v} (h : α → β) (J : Nat → List Value → Mem → α) (R : Int32 → Mem → α) (N : α) (n : Nat) (a0 : Nat) (x1 : Int32) (x2 : Int32) (x3 : Int32) (M : Mem) : h (T_X11_provableBy_11 J R N n a0 x1 x2 x3 M) = T_X11_provableBy_11 (fun c l M => h (J c l M)) (fun v M => h (R v M)) (h N) n a0 x1 x2 x3 M := by
  simp only [T_X11_provableBy_11, nat_ite h, nat_gd h, nat_bnd h, nat_bnd2 h]
set_option maxHeartbeats 4000000 in
set_option maxRecDepth 100000 in
theorem w_X11_provableBy_11 {X : Nat × (Nat → Int32)} {al : Bool} {n : Nat} {Q : Option Value → Mem → Prop} {J : Nat → List Value → Mem → Prop} (hJ : ∀ c l M, J c l M → PW_X11_provableBy X al n Q c l M) {R : Int32 → Mem → Prop} (hR : ∀ v M, R v M → Q (some (.int v)) M) {a0 : Nat} {x1 : Int32} {x2 : Int32} {x3 : Int32} {M : Mem} (h : T_X11_provableBy_11 J R False n a0 x1 x2 x3 M) : AW X (RX11, cX11_provableBy, 5, (some .int), false, al, n) 0 0 11 [(0, .ref a0), (1, .int x1), (2, .int x2), (3, .int x3)] [] M Q := by
  unfold T_X11_provableBy_11 at h
  refine a_iload_n dX11_provableBy_11 rfl rfl ?_
  refine a_aload_n dX11_provableBy_12 rfl rfl ?_
  obtain ⟨⟨ga1, gs2⟩, h⟩ := gd_t h
  refine a_get (v := .int (M.2.2.1 a0 15)) dX11_provableBy_13 fl_11_144 ga1 gs2 rfl ?_
  refine a_icmp_ge 38 dX11_provableBy_16 (by decide) (fun c3 => ?_) (fun c3 => ?_)
  · replace h := ite_t c3 h
    refine a_iload_n dX11_provableBy_38 rfl rfl ?_
    refine a_bipush (v := 40) dX11_provableBy_39 (by decide) ?_
    refine a_icmp_le 47 dX11_provableBy_41 (by decide) (fun c4 => ?_) (fun c4 => ?_)
    · replace h := ite_t c4 h
      refine a_aload_n dX11_provableBy_47 rfl rfl ?_
      refine a_iconst (v := 0) dX11_provableBy_48 (by decide) ?_
      refine a_putI dX11_provableBy_49 (Or.inl ⟨fl_11_151, Or.inl rfl⟩) rfl ga1 gs2 rfl rfl ?_
      refine a_iconst (v := 0) dX11_provableBy_52 (by decide) ?_
      refine a_istore_n dX11_provableBy_53 rfl (Nat.le_of_ble_eq_true rfl) (lv2 := [(3, .int 0), (0, .ref a0), (1, .int x1), (2, .int x2)]) rfl ?_
      refine a_iconst (v := 0) dX11_provableBy_54 (by decide) ?_
      refine a_istore dX11_provableBy_55 (Nat.le_of_ble_eq_true rfl) (lv2 := [(4, .int 0), (3, .int 0), (0, .ref a0), (1, .int x1), (2, .int x2)]) rfl ?_
      exact a_lv (lv2 := [(0, .ref a0), (1, .int x1), (3, .int 0), (4, .int 0)]) (fa_cons rfl (fa_cons rfl (fa_cons rfl (fa_cons rfl fa_nil)))) (hJ _ _ _ h)
    · replace h := ite_f c4 h
      refine a_bipush (v := -4) dX11_provableBy_44 (by decide) ?_
      exact a_iret dX11_provableBy_46 rfl (hR _ _ h)
  · replace h := ite_f c3 h
    refine a_iload_n dX11_provableBy_19 rfl rfl ?_
    refine a_aload_n dX11_provableBy_20 rfl rfl ?_
    refine a_aload_n dX11_provableBy_21 rfl rfl ?_
    obtain ⟨r5, e6, h⟩ := bnd_t h
    refine a_get (v := .ref r5) dX11_provableBy_22 fl_11_38 ga1 gs2 (gvR e6 rfl) ?_
    refine a_iload_n dX11_provableBy_25 rfl rfl ?_
    obtain ⟨⟨ga7, gn8, gs9, gi10⟩, h⟩ := gd_t h
    refine a_iaload dX11_provableBy_26 ga7 gs9 gi10 ?_
    obtain ⟨v11, M12, e13, h⟩ := bnd2_t h
    obtain ⟨n14, en15, e13⟩ := cal_t e13
    refine e_callV (As := [.int (M.2.2.1 r5 (x3.toNatClampNeg))]) (st := [.int x2]) (a := a0) (ci := 11) false dX11_provableBy_27 mw_X11_wordsOf (Or.inl ⟨rfl, ml_X11_435⟩) im_X11_wordsOf se_X11_wordsOf (by decide) ga1 gs2 rfl (Nat.le_of_ble_eq_true rfl) en15 (s_X11_wordsOf e13) ?_
    refine a_iadd dX11_provableBy_30 ?_
    refine a_istore_n dX11_provableBy_31 rfl (Nat.le_of_ble_eq_true rfl) (lv2 := [(2, .int (x2 + v11)), (0, .ref a0), (1, .int x1), (3, .int x3)]) rfl ?_
    refine a_iinc (v := (x3 + 1)) dX11_provableBy_32 rfl (by first | rfl | decide) (Nat.le_of_ble_eq_true rfl) (lv2 := [(3, .int (x3 + 1)), (2, .int (x2 + v11)), (0, .ref a0), (1, .int x1)]) rfl ?_
    refine a_goto 11 dX11_provableBy_35 (by decide) ?_
    exact a_lv (lv2 := [(0, .ref a0), (1, .int x1), (2, .int (x2 + v11)), (3, .int (x3 + 1))]) (fa_cons rfl (fa_cons rfl (fa_cons rfl (fa_cons rfl fa_nil)))) (hJ _ _ _ h)
set_option maxHeartbeats 4000000 in
set_option maxRecDepth 100000 in
noncomputable def T_X11_provableBy_57.{u} {α : Sort u} (J : Nat → List Value → Mem → α) (R : Int32 → Mem → α) (N : α) (n : Nat) (a0 : Nat) (x1 : Int32) (x3 : Int32) (x4 : Int32) (M : Mem) : α := gd (fO M a0 11) N (if (M.2.2.1 a0 15) ≤ x4 then bnd2 (cal n (fun n => f_X11_canProve n a0 0 x3 x1 M)) N (fun v4 M5 => if v4 = 0 then R 0 M5 else R 1 M5) else bnd (M.2.2.2.2 a0 11) N (fun r10 => gd (fA M r10 1 x4) N (bnd2 (cal n (fun n => f_X11_withHad n a0 0 x3 (M.2.2.1 r10 (x4.toNatClampNeg)) M)) N (fun v16 M17 => J 57 [.ref a0, .int x1, .int v16, .int (x4 + 1)] M17))))
set_option maxHeartbeats 4000000 in
set_option maxRecDepth 100000 in
theorem n_X11_provableBy_57.{u, v} {α : Sort u} {β : Sort v} (h : α → β) (J : Nat → List Value → Mem → α) (R : Int32 → Mem → α) (N : α) (n : Nat) (a0 : Nat) (x1 : Int32) (x3 : Int32) (x4 : Int32) (M : Mem) : h (T_X11_provableBy_57 J R N n a0 x1 x3 x4 M) = T_X11_provableBy_57 (fun c l M => h (J c l M)) (fun v M => h (R v M)) (h N) n a0 x1 x3 x4 M := by
  simp only [T_X11_provableBy_57, nat_ite h, nat_gd h, nat_bnd h, nat_bnd2 h]
set_option maxHeartbeats 4000000 in
set_option maxRecDepth 100000 in
theorem w_X11_provableBy_57 {X : Nat × (Nat → Int32)} {al : Bool} {n : Nat} {Q : Option Value → Mem → Prop} {J : Nat → List Value → Mem → Prop} (hJ : ∀ c l M, J c l M → PW_X11_provableBy X al n Q c l M) {R : Int32 → Mem → Prop} (hR : ∀ v M, R v M → Q (some (.int v)) M) {a0 : Nat} {x1 : Int32} {x3 : Int32} {x4 : Int32} {M : Mem} (h : T_X11_provableBy_57 J R False n a0 x1 x3 x4 M) : AW X (RX11, cX11_provableBy, 5, (some .int), false, al, n) 0 0 57 [(0, .ref a0), (1, .int x1), (3, .int x3), (4, .int x4)] [] M Q := by
  unfold T_X11_provableBy_57 at h
  refine a_iload dX11_provableBy_57 rfl ?_
  refine a_aload_n dX11_provableBy_59 rfl rfl ?_
  obtain ⟨⟨ga1, gs2⟩, h⟩ := gd_t h
  refine a_get (v := .int (M.2.2.1 a0 15)) dX11_provableBy_60 fl_11_144 ga1 gs2 rfl ?_
  refine a_icmp_ge 86 dX11_provableBy_63 (by decide) (fun c3 => ?_) (fun c3 => ?_)
  · replace h := ite_t c3 h
    refine a_aload_n dX11_provableBy_86 rfl rfl ?_
    refine a_iconst (v := 0) dX11_provableBy_87 (by decide) ?_
    refine a_iload_n dX11_provableBy_88 rfl rfl ?_
    refine a_iload_n dX11_provableBy_89 rfl rfl ?_
    obtain ⟨v4, M5, e6, h⟩ := bnd2_t h
    obtain ⟨n7, en8, e6⟩ := cal_t e6
    refine e_callV (As := [.int 0, .int x3, .int x1]) (st := []) (a := a0) (ci := 11) false dX11_provableBy_90 mw_X11_canProve (Or.inl ⟨rfl, ml_X11_447⟩) im_X11_canProve se_X11_canProve (by decide) ga1 gs2 rfl (Nat.le_of_ble_eq_true rfl) en8 (s_X11_canProve e6) ?_
    refine a_istore dX11_provableBy_93 (Nat.le_of_ble_eq_true rfl) (lv2 := [(4, .int v4), (0, .ref a0), (1, .int x1), (3, .int x3)]) rfl ?_
    refine a_iload dX11_provableBy_95 rfl ?_
    refine a_if_eq 104 dX11_provableBy_97 (by decide) (fun c9 => ?_) (fun c9 => ?_)
    · replace h := ite_t c9 h
      refine a_iconst (v := 0) dX11_provableBy_104 (by decide) ?_
      exact a_iret dX11_provableBy_105 rfl (hR _ _ h)
    · replace h := ite_f c9 h
      refine a_iconst (v := 1) dX11_provableBy_100 (by decide) ?_
      refine a_goto 105 dX11_provableBy_101 (by decide) ?_
      exact a_iret dX11_provableBy_105 rfl (hR _ _ h)
  · replace h := ite_f c3 h
    refine a_aload_n dX11_provableBy_66 rfl rfl ?_
    refine a_iconst (v := 0) dX11_provableBy_67 (by decide) ?_
    refine a_iload_n dX11_provableBy_68 rfl rfl ?_
    refine a_aload_n dX11_provableBy_69 rfl rfl ?_
    obtain ⟨r10, e11, h⟩ := bnd_t h
    refine a_get (v := .ref r10) dX11_provableBy_70 fl_11_38 ga1 gs2 (gvR e11 rfl) ?_
    refine a_iload dX11_provableBy_73 rfl ?_
    obtain ⟨⟨ga12, gn13, gs14, gi15⟩, h⟩ := gd_t h
    refine a_iaload dX11_provableBy_75 ga12 gs14 gi15 ?_
    obtain ⟨v16, M17, e18, h⟩ := bnd2_t h
    obtain ⟨n19, en20, e18⟩ := cal_t e18
    refine e_callV (As := [.int 0, .int x3, .int (M.2.2.1 r10 (x4.toNatClampNeg))]) (st := []) (a := a0) (ci := 11) false dX11_provableBy_76 mw_X11_withHad (Or.inl ⟨rfl, ml_X11_444⟩) im_X11_withHad se_X11_withHad (by decide) ga1 gs2 rfl (Nat.le_of_ble_eq_true rfl) en20 (s_X11_withHad e18) ?_
    refine a_istore_n dX11_provableBy_79 rfl (Nat.le_of_ble_eq_true rfl) (lv2 := [(3, .int v16), (0, .ref a0), (1, .int x1), (4, .int x4)]) rfl ?_
    refine a_iinc (v := (x4 + 1)) dX11_provableBy_80 rfl (by first | rfl | decide) (Nat.le_of_ble_eq_true rfl) (lv2 := [(4, .int (x4 + 1)), (3, .int v16), (0, .ref a0), (1, .int x1)]) rfl ?_
    refine a_goto 57 dX11_provableBy_83 (by decide) ?_
    exact a_lv (lv2 := [(0, .ref a0), (1, .int x1), (3, .int v16), (4, .int (x4 + 1))]) (fa_cons rfl (fa_cons rfl (fa_cons rfl (fa_cons rfl fa_nil)))) (hJ _ _ _ h)
set_option maxHeartbeats 4000000 in
set_option maxRecDepth 100000 in
noncomputable def st_X11_provableBy (n : Nat) (s : Sg) : Option (Sg ⊕ (Int32 × Mem)) := if s.1 = 0 then vR s.2.1 none (fun a0 t => vI t none (fun x1 t => vE t none (T_X11_provableBy_0 (fun c l M => some (.inl (c, l, M))) (fun v M => some (.inr (v, M))) none n a0 x1 s.2.2))) else if s.1 = 11 then vR s.2.1 none (fun a0 t => vI t none (fun x1 t => vI t none (fun x2 t => vI t none (fun x3 t => vE t none (T_X11_provableBy_11 (fun c l M => some (.inl (c, l, M))) (fun v M => some (.inr (v, M))) none n a0 x1 x2 x3 s.2.2))))) else if s.1 = 57 then vR s.2.1 none (fun a0 t => vI t none (fun x1 t => vI t none (fun x3 t => vI t none (fun x4 t => vE t none (T_X11_provableBy_57 (fun c l M => some (.inl (c, l, M))) (fun v M => some (.inr (v, M))) none n a0 x1 x3 x4 s.2.2))))) else none
noncomputable abbrev g_X11_provableBy_0 (n : Nat) (a0 : Nat) (x1 : Int32) (M : Mem) : Option (Int32 × Mem) := lp (st_X11_provableBy n) (0, [.ref a0, .int x1], M)
set_option maxHeartbeats 4000000 in
set_option maxRecDepth 100000 in
theorem ge_X11_provableBy_0 (n : Nat) (a0 : Nat) (x1 : Int32) (M : Mem) : g_X11_provableBy_0 n a0 x1 M = T_X11_provableBy_0 (fun c l M => lp (st_X11_provableBy n) (c, l, M)) (fun v M => some (v, M)) none n a0 x1 M := (lp_eq _ _).trans (n_X11_provableBy_0 (lpK (st_X11_provableBy n)) (fun c l M => some (.inl (c, l, M))) (fun v M => some (.inr (v, M))) none n a0 x1 M)
noncomputable abbrev g_X11_provableBy_11 (n : Nat) (a0 : Nat) (x1 : Int32) (x2 : Int32) (x3 : Int32) (M : Mem) : Option (Int32 × Mem) := lp (st_X11_provableBy n) (11, [.ref a0, .int x1, .int x2, .int x3], M)
set_option maxHeartbeats 4000000 in
set_option maxRecDepth 100000 in
theorem ge_X11_provableBy_11 (n : Nat) (a0 : Nat) (x1 : Int32) (x2 : Int32) (x3 : Int32) (M : Mem) : g_X11_provableBy_11 n a0 x1 x2 x3 M = T_X11_provableBy_11 (fun c l M => lp (st_X11_provableBy n) (c, l, M)) (fun v M => some (v, M)) none n a0 x1 x2 x3 M := (lp_eq _ _).trans (n_X11_provableBy_11 (lpK (st_X11_provableBy n)) (fun c l M => some (.inl (c, l, M))) (fun v M => some (.inr (v, M))) none n a0 x1 x2 x3 M)
noncomputable abbrev g_X11_provableBy_57 (n : Nat) (a0 : Nat) (x1 : Int32) (x3 : Int32) (x4 : Int32) (M : Mem) : Option (Int32 × Mem) := lp (st_X11_provableBy n) (57, [.ref a0, .int x1, .int x3, .int x4], M)
set_option maxHeartbeats 4000000 in
set_option maxRecDepth 100000 in
theorem ge_X11_provableBy_57 (n : Nat) (a0 : Nat) (x1 : Int32) (x3 : Int32) (x4 : Int32) (M : Mem) : g_X11_provableBy_57 n a0 x1 x3 x4 M = T_X11_provableBy_57 (fun c l M => lp (st_X11_provableBy n) (c, l, M)) (fun v M => some (v, M)) none n a0 x1 x3 x4 M := (lp_eq _ _).trans (n_X11_provableBy_57 (lpK (st_X11_provableBy n)) (fun c l M => some (.inl (c, l, M))) (fun v M => some (.inr (v, M))) none n a0 x1 x3 x4 M)
noncomputable def b_X11_provableBy (n : Nat) (a0 : Nat) (x1 : Int32) (M : Mem) : Option (Int32 × Mem) := g_X11_provableBy_0 n a0 x1 M
set_option maxHeartbeats 4000000 in
set_option maxRecDepth 100000 in
theorem sb_X11_provableBy {X : Nat × (Nat → Int32)} {al : Bool} {n : Nat} {a0 : Nat} {x1 : Int32} {M : Mem} {v : Int32} {M1 : Mem} (h : b_X11_provableBy n a0 x1 M = some (v, M1)) : AE yX11_provableBy cX11_provableBy 5 (some .int) al n X [.ref a0, .int x1] M (some (.int v)) M1 := by
  refine AM.of false (by decide +kernel) (by intro h; cases h) (Nat.le_of_ble_eq_true rfl) ?_
  refine lp_snd (P := fun s r => PW_X11_provableBy X al n (fun v M2 => v = (some (.int r.1)) ∧ M2 = r.2) s.1 s.2.1 s.2.2) ?_ h
  clear h
  rintro ⟨c, l, M⟩ r h
  unfold st_X11_provableBy at h
  rcases ite_p h with ⟨e, h⟩ | ⟨e, h⟩
  · replace e : c = 0 := e
    subst e
    obtain ⟨a0, tt0, e, h⟩ := vR_p id h
    replace e : l = _ := e
    subst e
    obtain ⟨x1, tt1, e, h⟩ := vI_p id h
    replace e : tt0 = _ := e
    subst e
    obtain ⟨e, h⟩ := vE_p id h
    replace e : tt1 = [] := e
    subst e
    exact w_X11_provableBy_0 (J := fun c l M => PW_X11_provableBy X al n (fun v M2 => v = (some (.int r.1)) ∧ M2 = r.2) c l M) (R := fun v M => (v, M) = r) (fun _ _ _ h => h) (fun v M h => by cases h; exact ⟨rfl, rfl⟩) ((n_X11_provableBy_0 (lpP (fun (s : Sg) (r : Int32 × Mem) => PW_X11_provableBy X al n (fun v M2 => v = (some (.int r.1)) ∧ M2 = r.2) s.1 s.2.1 s.2.2) r) (fun c l M => some (.inl (c, l, M))) (fun v M => some (.inr (v, M))) none n a0 x1 M).mp h)
  rcases ite_p h with ⟨e, h⟩ | ⟨e, h⟩
  · replace e : c = 11 := e
    subst e
    obtain ⟨a0, tt0, e, h⟩ := vR_p id h
    replace e : l = _ := e
    subst e
    obtain ⟨x1, tt1, e, h⟩ := vI_p id h
    replace e : tt0 = _ := e
    subst e
    obtain ⟨x2, tt2, e, h⟩ := vI_p id h
    replace e : tt1 = _ := e
    subst e
    obtain ⟨x3, tt3, e, h⟩ := vI_p id h
    replace e : tt2 = _ := e
    subst e
    obtain ⟨e, h⟩ := vE_p id h
    replace e : tt3 = [] := e
    subst e
    exact w_X11_provableBy_11 (J := fun c l M => PW_X11_provableBy X al n (fun v M2 => v = (some (.int r.1)) ∧ M2 = r.2) c l M) (R := fun v M => (v, M) = r) (fun _ _ _ h => h) (fun v M h => by cases h; exact ⟨rfl, rfl⟩) ((n_X11_provableBy_11 (lpP (fun (s : Sg) (r : Int32 × Mem) => PW_X11_provableBy X al n (fun v M2 => v = (some (.int r.1)) ∧ M2 = r.2) s.1 s.2.1 s.2.2) r) (fun c l M => some (.inl (c, l, M))) (fun v M => some (.inr (v, M))) none n a0 x1 x2 x3 M).mp h)
  rcases ite_p h with ⟨e, h⟩ | ⟨e, h⟩
  · replace e : c = 57 := e
    subst e
    obtain ⟨a0, tt0, e, h⟩ := vR_p id h
    replace e : l = _ := e
    subst e
    obtain ⟨x1, tt1, e, h⟩ := vI_p id h
    replace e : tt0 = _ := e
    subst e
    obtain ⟨x3, tt2, e, h⟩ := vI_p id h
    replace e : tt1 = _ := e
    subst e
    obtain ⟨x4, tt3, e, h⟩ := vI_p id h
    replace e : tt2 = _ := e
    subst e
    obtain ⟨e, h⟩ := vE_p id h
    replace e : tt3 = [] := e
    subst e
    exact w_X11_provableBy_57 (J := fun c l M => PW_X11_provableBy X al n (fun v M2 => v = (some (.int r.1)) ∧ M2 = r.2) c l M) (R := fun v M => (v, M) = r) (fun _ _ _ h => h) (fun v M h => by cases h; exact ⟨rfl, rfl⟩) ((n_X11_provableBy_57 (lpP (fun (s : Sg) (r : Int32 × Mem) => PW_X11_provableBy X al n (fun v M2 => v = (some (.int r.1)) ∧ M2 = r.2) s.1 s.2.1 s.2.2) r) (fun c l M => some (.inl (c, l, M))) (fun v M => some (.inr (v, M))) none n a0 x1 x3 x4 M).mp h)
  · exact h.elim

noncomputable abbrev f_X11_provableBy := b_X11_provableBy
theorem s_X11_provableBy {X : Nat × (Nat → Int32)} {al : Bool} {n : Nat} {a0 : Nat} {x1 : Int32} {M : Mem} {v : Int32} {M1 : Mem} (h : f_X11_provableBy n a0 x1 M = some (v, M1)) : AE yX11_provableBy cX11_provableBy 5 (some .int) al n X [.ref a0, .int x1] M (some (.int v)) M1 := sb_X11_provableBy h
set_option maxHeartbeats 4000000 in
set_option maxRecDepth 100000 in
noncomputable def T_X11_provable_0.{u} {α : Sort u} (R : Int32 → Mem → α) (N : α) (n : Nat) (a0 : Nat) (M : Mem) : α := gd (fO M a0 11) N (bnd2 (cal n (fun n => f_X11_tidies n a0 (wI (wI M a0 0 0) a0 24 0))) N (fun _ M3 => gd (fO M3 a0 11) N (bnd2 (cal n (fun n => f_X11_provableBy n a0 (M3.2.2.1 a0 16) M3)) N (fun v9 M10 => R v9 M10))))
set_option maxHeartbeats 4000000 in
set_option maxRecDepth 100000 in
theorem n_X11_provable_0.{u, v} {α : Sort u} {β : Sort v} (h : α → β) (R : Int32 → Mem → α) (N : α) (n : Nat) (a0 : Nat) (M : Mem) : h (T_X11_provable_0 R N n a0 M) = T_X11_provable_0 (fun v M => h (R v M)) (h N) n a0 M := by
  simp only [T_X11_provable_0, nat_ite h, nat_gd h, nat_bnd h, nat_bnd2 h]
set_option maxHeartbeats 4000000 in
set_option maxRecDepth 100000 in
theorem w_X11_provable_0 {X : Nat × (Nat → Int32)} {al : Bool} {n : Nat} {Q : Option Value → Mem → Prop} {R : Int32 → Mem → Prop} (hR : ∀ v M, R v M → Q (some (.int v)) M) {a0 : Nat} {M : Mem} (h : T_X11_provable_0 R False n a0 M) : AW X (RX11, cX11_provable, 1, (some .int), false, al, n) 0 0 0 [(0, .ref a0)] [] M Q := by
  unfold T_X11_provable_0 at h
  refine a_aload_n dX11_provable_0 rfl rfl ?_
  refine a_iconst (v := 0) dX11_provable_1 (by decide) ?_
  obtain ⟨⟨ga1, gs2⟩, h⟩ := gd_t h
  refine a_putI dX11_provable_2 (Or.inl ⟨fl_11_1, Or.inl rfl⟩) rfl ga1 gs2 rfl rfl ?_
  refine a_aload_n dX11_provable_5 rfl rfl ?_
  refine a_iconst (v := 0) dX11_provable_6 (by decide) ?_
  refine a_putI dX11_provable_7 (Or.inl ⟨fl_11_151, Or.inl rfl⟩) rfl ga1 gs2 rfl rfl ?_
  refine a_aload_n dX11_provable_10 rfl rfl ?_
  obtain ⟨_, M3, e4, h⟩ := bnd2_t h
  obtain ⟨n5, en6, e4⟩ := cal_t e4
  refine e_callV (As := []) (st := []) (a := a0) (ci := 11) false dX11_provable_11 mw_X11_tidies (Or.inl ⟨rfl, ml_X11_198⟩) im_X11_tidies se_X11_tidies (by decide) ga1 gs2 rfl (Nat.le_of_ble_eq_true rfl) en6 (s_X11_tidies e4) ?_
  refine a_aload_n dX11_provable_14 rfl rfl ?_
  refine a_aload_n dX11_provable_15 rfl rfl ?_
  obtain ⟨⟨ga7, gs8⟩, h⟩ := gd_t h
  refine a_get (v := .int (M3.2.2.1 a0 16)) dX11_provable_16 fl_11_134 ga7 gs8 rfl ?_
  obtain ⟨v9, M10, e11, h⟩ := bnd2_t h
  obtain ⟨n12, en13, e11⟩ := cal_t e11
  refine e_callV (As := [.int (M3.2.2.1 a0 16)]) (st := []) (a := a0) (ci := 11) false dX11_provable_19 mw_X11_provableBy (Or.inl ⟨rfl, ml_X11_453⟩) im_X11_provableBy se_X11_provableBy (by decide) ga7 gs8 rfl (Nat.le_of_ble_eq_true rfl) en13 (s_X11_provableBy e11) ?_
  exact a_iret dX11_provable_22 rfl (hR _ _ h)
noncomputable def b_X11_provable (n : Nat) (a0 : Nat) (M : Mem) : Option (Int32 × Mem) := T_X11_provable_0 (fun v M => some (v, M)) none n a0 M
set_option maxHeartbeats 4000000 in
set_option maxRecDepth 100000 in
theorem sb_X11_provable {X : Nat × (Nat → Int32)} {al : Bool} {n : Nat} {a0 : Nat} {M : Mem} {v : Int32} {M1 : Mem} (h : b_X11_provable n a0 M = some (v, M1)) : AE yX11_provable cX11_provable 1 (some .int) al n X [.ref a0] M (some (.int v)) M1 := by
  refine AM.of false (by decide +kernel) (by intro h; cases h) (Nat.le_of_ble_eq_true rfl) ?_
  have h2 : T_X11_provable_0 (fun v2 M2 => some (v2, M2) = some (v, M1)) (none = some (v, M1)) n a0 M := (n_X11_provable_0 (fun o => o = some (v, M1)) (fun v M => some (v, M)) none n a0 M).mp h
  have h3 : ((none : Option (Int32 × Mem)) = some (v, M1)) = False := eq_false (by intro q; cases q)
  rw [h3] at h2
  exact w_X11_provable_0 (fun v2 M2 h => by cases h; exact ⟨rfl, rfl⟩) h2

noncomputable abbrev f_X11_provable := b_X11_provable
theorem s_X11_provable {X : Nat × (Nat → Int32)} {al : Bool} {n : Nat} {a0 : Nat} {M : Mem} {v : Int32} {M1 : Mem} (h : f_X11_provable n a0 M = some (v, M1)) : AE yX11_provable cX11_provable 1 (some .int) al n X [.ref a0] M (some (.int v)) M1 := sb_X11_provable h
set_option maxHeartbeats 4000000 in
set_option maxRecDepth 100000 in
noncomputable def T_X10_bySide_0.{u} {α : Sort u} (R : Int32 → Mem → α) (N : α) (n : Nat) (a0 : Nat) (x1 : Int32) (M : Mem) : α := if x1 < 0 then R (-2) M else if x1 ≤ 1 then gd (fO M a0 10) N (bnd (M.2.2.2.2 a0 2) N (fun r5 => gd (fO M r5 1) N (bnd2 (cal n (fun n => f_X1_kindOf n r5 (M.2.2.1 a0 16) M)) N (fun v9 M10 => if v9 = 11 then if x1 = 0 then gd (fO M10 a0 10) N (bnd (M10.2.2.2.2 a0 2) N (fun r36 => gd (fO M10 r36 1) N (bnd2 (cal n (fun n => f_X1_leftOf n r36 (M10.2.2.1 a0 16) M10)) N (fun v40 M41 => gd (fO M41 a0 10) N (bnd2 (cal n (fun n => f_X10_provableFrom n a0 v40 M41)) N (fun v47 M48 => R v47 M48)))))) else gd (fO M10 a0 10) N (bnd (M10.2.2.2.2 a0 2) N (fun r18 => gd (fO M10 r18 1) N (bnd2 (cal n (fun n => f_X1_rightOf n r18 (M10.2.2.1 a0 16) M10)) N (fun v22 M23 => gd (fO M23 a0 10) N (bnd2 (cal n (fun n => f_X10_provableFrom n a0 v22 M23)) N (fun v29 M30 => R v29 M30)))))) else R (-5) M10)))) else R (-2) M
set_option maxHeartbeats 4000000 in
set_option maxRecDepth 100000 in
theorem n_X10_bySide_0.{u, v} {α : Sort u} {β : Sort v} (h : α → β) (R : Int32 → Mem → α) (N : α) (n : Nat) (a0 : Nat) (x1 : Int32) (M : Mem) : h (T_X10_bySide_0 R N n a0 x1 M) = T_X10_bySide_0 (fun v M => h (R v M)) (h N) n a0 x1 M := by
  simp only [T_X10_bySide_0, nat_ite h, nat_gd h, nat_bnd h, nat_bnd2 h]
set_option maxHeartbeats 4000000 in
set_option maxRecDepth 100000 in
theorem w_X10_bySide_0 {X : Nat × (Nat → Int32)} {al : Bool} {n : Nat} {Q : Option Value → Mem → Prop} {R : Int32 → Mem → Prop} (hR : ∀ v M, R v M → Q (some (.int v)) M) {a0 : Nat} {x1 : Int32} {M : Mem} (h : T_X10_bySide_0 R False n a0 x1 M) : AW X (RX10, cX10_bySide, 2, (some .int), false, al, n) 0 0 0 [(0, .ref a0), (1, .int x1)] [] M Q := by
  unfold T_X10_bySide_0 at h
  refine a_iload_n dX10_bySide_0 rfl rfl ?_
  refine a_if_lt 9 dX10_bySide_1 (by decide) (fun c1 => ?_) (fun c1 => ?_)
  · replace h := ite_t c1 h
    refine a_bipush (v := -2) dX10_bySide_9 (by decide) ?_
    exact a_iret dX10_bySide_11 rfl (hR _ _ h)
  · replace h := ite_f c1 h
    refine a_iload_n dX10_bySide_4 rfl rfl ?_
    refine a_iconst (v := 1) dX10_bySide_5 (by decide) ?_
    refine a_icmp_le 12 dX10_bySide_6 (by decide) (fun c2 => ?_) (fun c2 => ?_)
    · replace h := ite_t c2 h
      refine a_aload_n dX10_bySide_12 rfl rfl ?_
      obtain ⟨⟨ga3, gs4⟩, h⟩ := gd_t h
      obtain ⟨r5, e6, h⟩ := bnd_t h
      refine a_get (v := .ref r5) dX10_bySide_13 fl_10_16 ga3 gs4 (gvR e6 rfl) ?_
      refine a_aload_n dX10_bySide_16 rfl rfl ?_
      refine a_get (v := .int (M.2.2.1 a0 16)) dX10_bySide_17 fl_10_105 ga3 gs4 rfl ?_
      obtain ⟨⟨ga7, gs8⟩, h⟩ := gd_t h
      obtain ⟨v9, M10, e11, h⟩ := bnd2_t h
      obtain ⟨n12, en13, e11⟩ := cal_t e11
      refine e_callV (As := [.int (M.2.2.1 a0 16)]) (st := []) (a := r5) (ci := 1) false dX10_bySide_20 mw_X1_kindOf (Or.inl ⟨rfl, ml_X10_303⟩) im_X1_kindOf se_X1_kindOf (by decide) ga7 gs8 rfl (Nat.le_of_ble_eq_true rfl) en13 (s_X1_kindOf e11) ?_
      refine a_bipush (v := 11) dX10_bySide_23 (by decide) ?_
      refine a_icmp_eq 31 dX10_bySide_25 (by decide) (fun c14 => ?_) (fun c14 => ?_)
      · replace h := ite_t c14 h
        refine a_aload_n dX10_bySide_31 rfl rfl ?_
        refine a_iload_n dX10_bySide_32 rfl rfl ?_
        refine a_if_ne 50 dX10_bySide_33 (by decide) (fun c15 => ?_) (fun c15 => ?_)
        · replace h := ite_f c15 h
          refine a_aload_n dX10_bySide_50 rfl rfl ?_
          obtain ⟨⟨ga16, gs17⟩, h⟩ := gd_t h
          obtain ⟨r18, e19, h⟩ := bnd_t h
          refine a_get (v := .ref r18) dX10_bySide_51 fl_10_16 ga16 gs17 (gvR e19 rfl) ?_
          refine a_aload_n dX10_bySide_54 rfl rfl ?_
          refine a_get (v := .int (M10.2.2.1 a0 16)) dX10_bySide_55 fl_10_105 ga16 gs17 rfl ?_
          obtain ⟨⟨ga20, gs21⟩, h⟩ := gd_t h
          obtain ⟨v22, M23, e24, h⟩ := bnd2_t h
          obtain ⟨n25, en26, e24⟩ := cal_t e24
          refine e_callV (As := [.int (M10.2.2.1 a0 16)]) (st := [.ref a0]) (a := r18) (ci := 1) false dX10_bySide_58 mw_X1_rightOf (Or.inl ⟨rfl, ml_X10_315⟩) im_X1_rightOf se_X1_rightOf (by decide) ga20 gs21 rfl (Nat.le_of_ble_eq_true rfl) en26 (s_X1_rightOf e24) ?_
          obtain ⟨⟨ga27, gs28⟩, h⟩ := gd_t h
          obtain ⟨v29, M30, e31, h⟩ := bnd2_t h
          obtain ⟨n32, en33, e31⟩ := cal_t e31
          refine e_callV (As := [.int v22]) (st := []) (a := a0) (ci := 10) false dX10_bySide_61 mw_X10_provableFrom (Or.inl ⟨rfl, ml_X10_309⟩) im_X10_provableFrom se_X10_provableFrom (by decide) ga27 gs28 rfl (Nat.le_of_ble_eq_true rfl) en33 (s_X10_provableFrom e31) ?_
          exact a_iret dX10_bySide_64 rfl (hR _ _ h)
        · replace h := ite_t c15 h
          refine a_aload_n dX10_bySide_36 rfl rfl ?_
          obtain ⟨⟨ga34, gs35⟩, h⟩ := gd_t h
          obtain ⟨r36, e37, h⟩ := bnd_t h
          refine a_get (v := .ref r36) dX10_bySide_37 fl_10_16 ga34 gs35 (gvR e37 rfl) ?_
          refine a_aload_n dX10_bySide_40 rfl rfl ?_
          refine a_get (v := .int (M10.2.2.1 a0 16)) dX10_bySide_41 fl_10_105 ga34 gs35 rfl ?_
          obtain ⟨⟨ga38, gs39⟩, h⟩ := gd_t h
          obtain ⟨v40, M41, e42, h⟩ := bnd2_t h
          obtain ⟨n43, en44, e42⟩ := cal_t e42
          refine e_callV (As := [.int (M10.2.2.1 a0 16)]) (st := [.ref a0]) (a := r36) (ci := 1) false dX10_bySide_44 mw_X1_leftOf (Or.inl ⟨rfl, ml_X10_312⟩) im_X1_leftOf se_X1_leftOf (by decide) ga38 gs39 rfl (Nat.le_of_ble_eq_true rfl) en44 (s_X1_leftOf e42) ?_
          refine a_goto 61 dX10_bySide_47 (by decide) ?_
          obtain ⟨⟨ga45, gs46⟩, h⟩ := gd_t h
          obtain ⟨v47, M48, e49, h⟩ := bnd2_t h
          obtain ⟨n50, en51, e49⟩ := cal_t e49
          refine e_callV (As := [.int v40]) (st := []) (a := a0) (ci := 10) false dX10_bySide_61 mw_X10_provableFrom (Or.inl ⟨rfl, ml_X10_309⟩) im_X10_provableFrom se_X10_provableFrom (by decide) ga45 gs46 rfl (Nat.le_of_ble_eq_true rfl) en51 (s_X10_provableFrom e49) ?_
          exact a_iret dX10_bySide_64 rfl (hR _ _ h)
      · replace h := ite_f c14 h
        refine a_bipush (v := -5) dX10_bySide_28 (by decide) ?_
        exact a_iret dX10_bySide_30 rfl (hR _ _ h)
    · replace h := ite_f c2 h
      refine a_bipush (v := -2) dX10_bySide_9 (by decide) ?_
      exact a_iret dX10_bySide_11 rfl (hR _ _ h)
noncomputable def b_X10_bySide (n : Nat) (a0 : Nat) (x1 : Int32) (M : Mem) : Option (Int32 × Mem) := T_X10_bySide_0 (fun v M => some (v, M)) none n a0 x1 M
set_option maxHeartbeats 4000000 in
set_option maxRecDepth 100000 in
theorem sb_X10_bySide {X : Nat × (Nat → Int32)} {al : Bool} {n : Nat} {a0 : Nat} {x1 : Int32} {M : Mem} {v : Int32} {M1 : Mem} (h : b_X10_bySide n a0 x1 M = some (v, M1)) : AE yX10_bySide cX10_bySide 2 (some .int) al n X [.ref a0, .int x1] M (some (.int v)) M1 := by
  refine AM.of false (by decide +kernel) (by intro h; cases h) (Nat.le_of_ble_eq_true rfl) ?_
  have h2 : T_X10_bySide_0 (fun v2 M2 => some (v2, M2) = some (v, M1)) (none = some (v, M1)) n a0 x1 M := (n_X10_bySide_0 (fun o => o = some (v, M1)) (fun v M => some (v, M)) none n a0 x1 M).mp h
  have h3 : ((none : Option (Int32 × Mem)) = some (v, M1)) = False := eq_false (by intro q; cases q)
  rw [h3] at h2
  exact w_X10_bySide_0 (fun v2 M2 h => by cases h; exact ⟨rfl, rfl⟩) h2

noncomputable abbrev f_X10_bySide := b_X10_bySide
theorem s_X10_bySide {X : Nat × (Nat → Int32)} {al : Bool} {n : Nat} {a0 : Nat} {x1 : Int32} {M : Mem} {v : Int32} {M1 : Mem} (h : f_X10_bySide n a0 x1 M = some (v, M1)) : AE yX10_bySide cX10_bySide 2 (some .int) al n X [.ref a0, .int x1] M (some (.int v)) M1 := sb_X10_bySide h
set_option maxHeartbeats 4000000 in
set_option maxRecDepth 100000 in
noncomputable def T_X11_bySide_0.{u} {α : Sort u} (R : Int32 → Mem → α) (N : α) (n : Nat) (a0 : Nat) (x1 : Int32) (M : Mem) : α := gd (fO M a0 11) N (bnd2 (cal n (fun n => f_X11_isIn n (Int32.toInt64 x1) 0 1 (wI M a0 0 0))) N (fun v3 M4 => if v3 = 0 then R (-2) M4 else gd (fO M4 a0 11) N (bnd (M4.2.2.2.2 a0 1) N (fun r11 => gd (fA M4 r11 1 (M4.2.2.1 a0 16)) N (if (M4.2.2.1 r11 ((M4.2.2.1 a0 16).toNatClampNeg)) = 11 then bnd2 (cal n (fun n => f_X11_tidies n a0 (wI M4 a0 24 0))) N (fun _ M18 => if x1 = 0 then gd (fO M18 a0 11) N (bnd (M18.2.2.2.2 a0 2) N (fun r38 => gd (fA M18 r38 1 (M18.2.2.1 a0 16)) N (bnd2 (cal n (fun n => f_X11_provableBy n a0 (M18.2.2.1 r38 ((M18.2.2.1 a0 16).toNatClampNeg)) M18)) N (fun v44 M45 => R v44 M45)))) else gd (fO M18 a0 11) N (bnd (M18.2.2.2.2 a0 3) N (fun r25 => gd (fA M18 r25 1 (M18.2.2.1 a0 16)) N (bnd2 (cal n (fun n => f_X11_provableBy n a0 (M18.2.2.1 r25 ((M18.2.2.1 a0 16).toNatClampNeg)) M18)) N (fun v31 M32 => R v31 M32))))) else R (-5) M4)))))
set_option maxHeartbeats 4000000 in
set_option maxRecDepth 100000 in
theorem n_X11_bySide_0.{u, v} {α : Sort u} {β : Sort v} (h : α → β) (R : Int32 → Mem → α) (N : α) (n : Nat) (a0 : Nat) (x1 : Int32) (M : Mem) : h (T_X11_bySide_0 R N n a0 x1 M) = T_X11_bySide_0 (fun v M => h (R v M)) (h N) n a0 x1 M := by
  simp only [T_X11_bySide_0, nat_ite h, nat_gd h, nat_bnd h, nat_bnd2 h]
set_option maxHeartbeats 4000000 in
set_option maxRecDepth 100000 in
theorem w_X11_bySide_0 {X : Nat × (Nat → Int32)} {al : Bool} {n : Nat} {Q : Option Value → Mem → Prop} {R : Int32 → Mem → Prop} (hR : ∀ v M, R v M → Q (some (.int v)) M) {a0 : Nat} {x1 : Int32} {M : Mem} (h : T_X11_bySide_0 R False n a0 x1 M) : AW X (RX11, cX11_bySide, 2, (some .int), false, al, n) 0 0 0 [(0, .ref a0), (1, .int x1)] [] M Q := by
  unfold T_X11_bySide_0 at h
  refine a_aload_n dX11_bySide_0 rfl rfl ?_
  refine a_iconst (v := 0) dX11_bySide_1 (by decide) ?_
  obtain ⟨⟨ga1, gs2⟩, h⟩ := gd_t h
  refine a_putI dX11_bySide_2 (Or.inl ⟨fl_11_1, Or.inl rfl⟩) rfl ga1 gs2 rfl rfl ?_
  refine a_iload_n dX11_bySide_5 rfl rfl ?_
  refine a_i2l dX11_bySide_6 ?_
  refine a_lconst (v := 0) dX11_bySide_7 (by decide) ?_
  refine a_lconst (v := 1) dX11_bySide_8 (by decide) ?_
  obtain ⟨v3, M4, e5, h⟩ := bnd2_t h
  obtain ⟨n6, en7, e5⟩ := cal_t e5
  refine e_callS (As := [.long (Int32.toInt64 x1), .long 0, .long 1]) (st := []) false dX11_bySide_9 mw_X11_isIn (Or.inl ⟨rfl, ml_X11_180⟩) sm_X11_isIn rfl (Nat.le_of_ble_eq_true rfl) en7 (s_X11_isIn e5) ?_
  refine a_if_ne 18 dX11_bySide_12 (by decide) (fun c8 => ?_) (fun c8 => ?_)
  · replace h := ite_f c8 h
    refine a_aload_n dX11_bySide_18 rfl rfl ?_
    obtain ⟨⟨ga9, gs10⟩, h⟩ := gd_t h
    obtain ⟨r11, e12, h⟩ := bnd_t h
    refine a_get (v := .ref r11) dX11_bySide_19 fl_11_13 ga9 gs10 (gvR e12 rfl) ?_
    refine a_aload_n dX11_bySide_22 rfl rfl ?_
    refine a_get (v := .int (M4.2.2.1 a0 16)) dX11_bySide_23 fl_11_134 ga9 gs10 rfl ?_
    obtain ⟨⟨ga13, gn14, gs15, gi16⟩, h⟩ := gd_t h
    refine a_iaload dX11_bySide_26 ga13 gs15 gi16 ?_
    refine a_bipush (v := 11) dX11_bySide_27 (by decide) ?_
    refine a_icmp_eq 35 dX11_bySide_29 (by decide) (fun c17 => ?_) (fun c17 => ?_)
    · replace h := ite_t c17 h
      refine a_aload_n dX11_bySide_35 rfl rfl ?_
      refine a_iconst (v := 0) dX11_bySide_36 (by decide) ?_
      refine a_putI dX11_bySide_37 (Or.inl ⟨fl_11_151, Or.inl rfl⟩) rfl ga9 gs10 rfl rfl ?_
      refine a_aload_n dX11_bySide_40 rfl rfl ?_
      obtain ⟨_, M18, e19, h⟩ := bnd2_t h
      obtain ⟨n20, en21, e19⟩ := cal_t e19
      refine e_callV (As := []) (st := []) (a := a0) (ci := 11) false dX11_bySide_41 mw_X11_tidies (Or.inl ⟨rfl, ml_X11_198⟩) im_X11_tidies se_X11_tidies (by decide) ga9 gs10 rfl (Nat.le_of_ble_eq_true rfl) en21 (s_X11_tidies e19) ?_
      refine a_aload_n dX11_bySide_44 rfl rfl ?_
      refine a_iload_n dX11_bySide_45 rfl rfl ?_
      refine a_if_ne 61 dX11_bySide_46 (by decide) (fun c22 => ?_) (fun c22 => ?_)
      · replace h := ite_f c22 h
        refine a_aload_n dX11_bySide_61 rfl rfl ?_
        obtain ⟨⟨ga23, gs24⟩, h⟩ := gd_t h
        obtain ⟨r25, e26, h⟩ := bnd_t h
        refine a_get (v := .ref r25) dX11_bySide_62 fl_11_20 ga23 gs24 (gvR e26 rfl) ?_
        refine a_aload_n dX11_bySide_65 rfl rfl ?_
        refine a_get (v := .int (M18.2.2.1 a0 16)) dX11_bySide_66 fl_11_134 ga23 gs24 rfl ?_
        obtain ⟨⟨ga27, gn28, gs29, gi30⟩, h⟩ := gd_t h
        refine a_iaload dX11_bySide_69 ga27 gs29 gi30 ?_
        obtain ⟨v31, M32, e33, h⟩ := bnd2_t h
        obtain ⟨n34, en35, e33⟩ := cal_t e33
        refine e_callV (As := [.int (M18.2.2.1 r25 ((M18.2.2.1 a0 16).toNatClampNeg))]) (st := []) (a := a0) (ci := 11) false dX11_bySide_70 mw_X11_provableBy (Or.inl ⟨rfl, ml_X11_453⟩) im_X11_provableBy se_X11_provableBy (by decide) ga23 gs24 rfl (Nat.le_of_ble_eq_true rfl) en35 (s_X11_provableBy e33) ?_
        exact a_iret dX11_bySide_73 rfl (hR _ _ h)
      · replace h := ite_t c22 h
        refine a_aload_n dX11_bySide_49 rfl rfl ?_
        obtain ⟨⟨ga36, gs37⟩, h⟩ := gd_t h
        obtain ⟨r38, e39, h⟩ := bnd_t h
        refine a_get (v := .ref r38) dX11_bySide_50 fl_11_17 ga36 gs37 (gvR e39 rfl) ?_
        refine a_aload_n dX11_bySide_53 rfl rfl ?_
        refine a_get (v := .int (M18.2.2.1 a0 16)) dX11_bySide_54 fl_11_134 ga36 gs37 rfl ?_
        obtain ⟨⟨ga40, gn41, gs42, gi43⟩, h⟩ := gd_t h
        refine a_iaload dX11_bySide_57 ga40 gs42 gi43 ?_
        refine a_goto 70 dX11_bySide_58 (by decide) ?_
        obtain ⟨v44, M45, e46, h⟩ := bnd2_t h
        obtain ⟨n47, en48, e46⟩ := cal_t e46
        refine e_callV (As := [.int (M18.2.2.1 r38 ((M18.2.2.1 a0 16).toNatClampNeg))]) (st := []) (a := a0) (ci := 11) false dX11_bySide_70 mw_X11_provableBy (Or.inl ⟨rfl, ml_X11_453⟩) im_X11_provableBy se_X11_provableBy (by decide) ga36 gs37 rfl (Nat.le_of_ble_eq_true rfl) en48 (s_X11_provableBy e46) ?_
        exact a_iret dX11_bySide_73 rfl (hR _ _ h)
    · replace h := ite_f c17 h
      refine a_bipush (v := -5) dX11_bySide_32 (by decide) ?_
      exact a_iret dX11_bySide_34 rfl (hR _ _ h)
  · replace h := ite_t c8 h
    refine a_bipush (v := -2) dX11_bySide_15 (by decide) ?_
    exact a_iret dX11_bySide_17 rfl (hR _ _ h)
noncomputable def b_X11_bySide (n : Nat) (a0 : Nat) (x1 : Int32) (M : Mem) : Option (Int32 × Mem) := T_X11_bySide_0 (fun v M => some (v, M)) none n a0 x1 M
set_option maxHeartbeats 4000000 in
set_option maxRecDepth 100000 in
theorem sb_X11_bySide {X : Nat × (Nat → Int32)} {al : Bool} {n : Nat} {a0 : Nat} {x1 : Int32} {M : Mem} {v : Int32} {M1 : Mem} (h : b_X11_bySide n a0 x1 M = some (v, M1)) : AE yX11_bySide cX11_bySide 2 (some .int) al n X [.ref a0, .int x1] M (some (.int v)) M1 := by
  refine AM.of false (by decide +kernel) (by intro h; cases h) (Nat.le_of_ble_eq_true rfl) ?_
  have h2 : T_X11_bySide_0 (fun v2 M2 => some (v2, M2) = some (v, M1)) (none = some (v, M1)) n a0 x1 M := (n_X11_bySide_0 (fun o => o = some (v, M1)) (fun v M => some (v, M)) none n a0 x1 M).mp h
  have h3 : ((none : Option (Int32 × Mem)) = some (v, M1)) = False := eq_false (by intro q; cases q)
  rw [h3] at h2
  exact w_X11_bySide_0 (fun v2 M2 h => by cases h; exact ⟨rfl, rfl⟩) h2

noncomputable abbrev f_X11_bySide := b_X11_bySide
theorem s_X11_bySide {X : Nat × (Nat → Int32)} {al : Bool} {n : Nat} {a0 : Nat} {x1 : Int32} {M : Mem} {v : Int32} {M1 : Mem} (h : f_X11_bySide n a0 x1 M = some (v, M1)) : AE yX11_bySide cX11_bySide 2 (some .int) al n X [.ref a0, .int x1] M (some (.int v)) M1 := sb_X11_bySide h
set_option maxHeartbeats 4000000 in
set_option maxRecDepth 100000 in
noncomputable def T_X5_truthAt_0.{u} {α : Sort u} (R : Int64 → Mem → α) (N : α) (n : Nat) (a0 : Nat) (x1 : Int32) (M : Mem) : α := if x1 < 0 then R 0 M else gd (fO M a0 5) N (if (M.2.2.1 a0 6) ≤ x1 then R 0 M else if 420 ≤ x1 then R 0 M else bnd (M.2.2.2.2 a0 5) N (fun r6 => gd (fA M r6 2 x1) N (R (M.2.2.2.1 r6 (x1.toNatClampNeg)) M)))
set_option maxHeartbeats 4000000 in
set_option maxRecDepth 100000 in
theorem n_X5_truthAt_0.{u, v} {α : Sort u} {β : Sort v} (h : α → β) (R : Int64 → Mem → α) (N : α) (n : Nat) (a0 : Nat) (x1 : Int32) (M : Mem) : h (T_X5_truthAt_0 R N n a0 x1 M) = T_X5_truthAt_0 (fun v M => h (R v M)) (h N) n a0 x1 M := by
  simp only [T_X5_truthAt_0, nat_ite h, nat_gd h, nat_bnd h, nat_bnd2 h]
set_option maxHeartbeats 4000000 in
set_option maxRecDepth 100000 in
theorem w_X5_truthAt_0 {X : Nat × (Nat → Int32)} {al : Bool} {n : Nat} {Q : Option Value → Mem → Prop} {R : Int64 → Mem → Prop} (hR : ∀ v M, R v M → Q (some (.long v)) M) {a0 : Nat} {x1 : Int32} {M : Mem} (h : T_X5_truthAt_0 R False n a0 x1 M) : AW X (RX5, cX5_truthAt, 2, (some .long), false, al, n) 0 0 0 [(0, .ref a0), (1, .int x1)] [] M Q := by
  unfold T_X5_truthAt_0 at h
  refine a_iload_n dX5_truthAt_0 rfl rfl ?_
  refine a_if_lt 28 dX5_truthAt_1 (by decide) (fun c1 => ?_) (fun c1 => ?_)
  · replace h := ite_t c1 h
    refine a_lconst (v := 0) dX5_truthAt_28 (by decide) ?_
    exact a_lret dX5_truthAt_29 rfl (hR _ _ h)
  · replace h := ite_f c1 h
    refine a_iload_n dX5_truthAt_4 rfl rfl ?_
    refine a_aload_n dX5_truthAt_5 rfl rfl ?_
    obtain ⟨⟨ga2, gs3⟩, h⟩ := gd_t h
    refine a_get (v := .int (M.2.2.1 a0 6)) dX5_truthAt_6 fl_5_51 ga2 gs3 rfl ?_
    refine a_icmp_ge 28 dX5_truthAt_9 (by decide) (fun c4 => ?_) (fun c4 => ?_)
    · replace h := ite_t c4 h
      refine a_lconst (v := 0) dX5_truthAt_28 (by decide) ?_
      exact a_lret dX5_truthAt_29 rfl (hR _ _ h)
    · replace h := ite_f c4 h
      refine a_iload_n dX5_truthAt_12 rfl rfl ?_
      refine a_sipush (v := 420) dX5_truthAt_13 (by decide) ?_
      refine a_icmp_ge 28 dX5_truthAt_16 (by decide) (fun c5 => ?_) (fun c5 => ?_)
      · replace h := ite_t c5 h
        refine a_lconst (v := 0) dX5_truthAt_28 (by decide) ?_
        exact a_lret dX5_truthAt_29 rfl (hR _ _ h)
      · replace h := ite_f c5 h
        refine a_aload_n dX5_truthAt_19 rfl rfl ?_
        obtain ⟨r6, e7, h⟩ := bnd_t h
        refine a_get (v := .ref r6) dX5_truthAt_20 fl_5_26 ga2 gs3 (gvR e7 rfl) ?_
        refine a_iload_n dX5_truthAt_23 rfl rfl ?_
        obtain ⟨⟨ga8, gn9, gs10, gi11⟩, h⟩ := gd_t h
        refine a_laload dX5_truthAt_24 ga8 gs10 gi11 ?_
        refine a_goto 29 dX5_truthAt_25 (by decide) ?_
        exact a_lret dX5_truthAt_29 rfl (hR _ _ h)
noncomputable def b_X5_truthAt (n : Nat) (a0 : Nat) (x1 : Int32) (M : Mem) : Option (Int64 × Mem) := T_X5_truthAt_0 (fun v M => some (v, M)) none n a0 x1 M
set_option maxHeartbeats 4000000 in
set_option maxRecDepth 100000 in
theorem sb_X5_truthAt {X : Nat × (Nat → Int32)} {al : Bool} {n : Nat} {a0 : Nat} {x1 : Int32} {M : Mem} {v : Int64} {M1 : Mem} (h : b_X5_truthAt n a0 x1 M = some (v, M1)) : AE yX5_truthAt cX5_truthAt 2 (some .long) al n X [.ref a0, .int x1] M (some (.long v)) M1 := by
  refine AM.of false (by decide +kernel) (by intro h; cases h) (Nat.le_of_ble_eq_true rfl) ?_
  have h2 : T_X5_truthAt_0 (fun v2 M2 => some (v2, M2) = some (v, M1)) (none = some (v, M1)) n a0 x1 M := (n_X5_truthAt_0 (fun o => o = some (v, M1)) (fun v M => some (v, M)) none n a0 x1 M).mp h
  have h3 : ((none : Option (Int64 × Mem)) = some (v, M1)) = False := eq_false (by intro q; cases q)
  rw [h3] at h2
  exact w_X5_truthAt_0 (fun v2 M2 h => by cases h; exact ⟨rfl, rfl⟩) h2

noncomputable abbrev f_X5_truthAt := b_X5_truthAt
theorem s_X5_truthAt {X : Nat × (Nat → Int32)} {al : Bool} {n : Nat} {a0 : Nat} {x1 : Int32} {M : Mem} {v : Int64} {M1 : Mem} (h : f_X5_truthAt n a0 x1 M = some (v, M1)) : AE yX5_truthAt cX5_truthAt 2 (some .long) al n X [.ref a0, .int x1] M (some (.long v)) M1 := sb_X5_truthAt h
def ix_X5_truthOf (c : Nat) : List Nat := if c = 0 then [0, 1, 2] else if c = 118 then [2, 3] else []
def PW_X5_truthOf (X : Nat × (Nat → Int32)) (al : Bool) (n : Nat) (Q : Option Value → Mem → Prop) (c : Nat) (l : List Value) (M : Mem) : Prop := AW X (RX5, cX5_truthOf, 4, (some .long), false, al, n) 0 0 c (List.zip (ix_X5_truthOf c) l) (l.drop (ix_X5_truthOf c).length) M Q
set_option maxHeartbeats 4000000 in
set_option maxRecDepth 100000 in
noncomputable def T_X5_truthOf_0.{u} {α : Sort u} (J : Nat → List Value → Mem → α) (R : Int64 → Mem → α) (N : α) (n : Nat) (a0 : Nat) (x1 : Int32) (x2 : Int32) (M : Mem) : α := gd (fO M a0 5) N (bnd2 (cal n (fun n => f_X5_kindAt n a0 x1 M)) N (fun v3 M4 => if v3 = 8 then R 0 M4 else if v3 = 9 then gd (fO M4 a0 5) N (bnd2 (cal n (fun n => f_X5_leftAt n a0 x1 M4)) N (fun v12 M13 => gd (fO M13 a0 5) N (bnd2 (cal n (fun n => f_X5_truthAt n a0 v12 M13)) N (fun v19 M20 => gd (fO M20 a0 5) N (bnd2 (cal n (fun n => f_X5_rightAt n a0 x1 M20)) N (fun v26 M27 => gd (fO M27 a0 5) N (bnd2 (cal n (fun n => f_X5_truthAt n a0 v26 M27)) N (fun v33 M34 => R ((v19 ^^^ (-1)) ||| v33) M34)))))))) else if v3 = 10 then gd (fO M4 a0 5) N (bnd2 (cal n (fun n => f_X5_leftAt n a0 x1 M4)) N (fun v41 M42 => gd (fO M42 a0 5) N (bnd2 (cal n (fun n => f_X5_truthAt n a0 v41 M42)) N (fun v48 M49 => gd (fO M49 a0 5) N (bnd2 (cal n (fun n => f_X5_rightAt n a0 x1 M49)) N (fun v55 M56 => gd (fO M56 a0 5) N (bnd2 (cal n (fun n => f_X5_truthAt n a0 v55 M56)) N (fun v62 M63 => R (v48 &&& v62) M63)))))))) else if v3 = 11 then gd (fO M4 a0 5) N (bnd2 (cal n (fun n => f_X5_leftAt n a0 x1 M4)) N (fun v70 M71 => gd (fO M71 a0 5) N (bnd2 (cal n (fun n => f_X5_truthAt n a0 v70 M71)) N (fun v77 M78 => gd (fO M78 a0 5) N (bnd2 (cal n (fun n => f_X5_rightAt n a0 x1 M78)) N (fun v84 M85 => gd (fO M85 a0 5) N (bnd2 (cal n (fun n => f_X5_truthAt n a0 v84 M85)) N (fun v91 M92 => R (v77 ||| v91) M92)))))))) else if v3 < 0 then J 118 [.int x2, .int v3] M4 else if 6 ≤ v3 then J 118 [.int x2, .int v3] M4 else gd (vp_in v3 6) N (R (apF v3.toNatClampNeg) M4)))
set_option maxHeartbeats 4000000 in
set_option maxRecDepth 100000 in
theorem n_X5_truthOf_0.{u, v} {α : Sort u} {β : Sort v} (h : α → β) (J : Nat → List Value → Mem → α) (R : Int64 → Mem → α) (N : α) (n : Nat) (a0 : Nat) (x1 : Int32) (x2 : Int32) (M : Mem) : h (T_X5_truthOf_0 J R N n a0 x1 x2 M) = T_X5_truthOf_0 (fun c l M => h (J c l M)) (fun v M => h (R v M)) (h N) n a0 x1 x2 M := by
  simp only [T_X5_truthOf_0, nat_ite h, nat_gd h, nat_bnd h, nat_bnd2 h]
set_option maxHeartbeats 4000000 in
set_option maxRecDepth 100000 in
theorem w_X5_truthOf_0 {X : Nat × (Nat → Int32)} {al : Bool} {n : Nat} {Q : Option Value → Mem → Prop} {J : Nat → List Value → Mem → Prop} (hJ : ∀ c l M, J c l M → PW_X5_truthOf X al n Q c l M) {R : Int64 → Mem → Prop} (hR : ∀ v M, R v M → Q (some (.long v)) M) {a0 : Nat} {x1 : Int32} {x2 : Int32} {M : Mem} (h : T_X5_truthOf_0 J R False n a0 x1 x2 M) : AW X (RX5, cX5_truthOf, 4, (some .long), false, al, n) 0 0 0 [(0, .ref a0), (1, .int x1), (2, .int x2)] [] M Q := by
  unfold T_X5_truthOf_0 at h
  refine a_aload_n dX5_truthOf_0 rfl rfl ?_
  refine a_iload_n dX5_truthOf_1 rfl rfl ?_
  obtain ⟨⟨ga1, gs2⟩, h⟩ := gd_t h
  obtain ⟨v3, M4, e5, h⟩ := bnd2_t h
  obtain ⟨n6, en7, e5⟩ := cal_t e5
  refine e_callV (As := [.int x1]) (st := []) (a := a0) (ci := 5) false dX5_truthOf_2 mw_X5_kindAt (Or.inl ⟨rfl, ml_X5_93⟩) im_X5_kindAt se_X5_kindAt (by decide) ga1 gs2 rfl (Nat.le_of_ble_eq_true rfl) en7 (s_X5_kindAt e5) ?_
  refine a_istore_n dX5_truthOf_5 rfl (Nat.le_of_ble_eq_true rfl) (lv2 := [(3, .int v3), (0, .ref a0), (1, .int x1), (2, .int x2)]) rfl ?_
  refine a_iload_n dX5_truthOf_6 rfl rfl ?_
  by_cases c8 : v3 = 8
  · replace h := ite_t c8 h
    refine a_tableIn (off := 29) 36 dX5_truthOf_7 (by rw [c8]; decide) (by rw [c8]; decide) (by rw [c8]; rfl) (by decide) ?_
    refine a_lconst (v := 0) dX5_truthOf_36 (by decide) ?_
    exact a_lret dX5_truthOf_37 rfl (hR _ _ h)
  replace h := ite_f c8 h
  by_cases c9 : v3 = 9
  · replace h := ite_t c9 h
    refine a_tableIn (off := 31) 38 dX5_truthOf_7 (by rw [c9]; decide) (by rw [c9]; decide) (by rw [c9]; rfl) (by decide) ?_
    refine a_aload_n dX5_truthOf_38 rfl rfl ?_
    refine a_aload_n dX5_truthOf_39 rfl rfl ?_
    refine a_iload_n dX5_truthOf_40 rfl rfl ?_
    obtain ⟨⟨ga10, gs11⟩, h⟩ := gd_t h
    obtain ⟨v12, M13, e14, h⟩ := bnd2_t h
    obtain ⟨n15, en16, e14⟩ := cal_t e14
    refine e_callV (As := [.int x1]) (st := [.ref a0]) (a := a0) (ci := 5) false dX5_truthOf_41 mw_X5_leftAt (Or.inl ⟨rfl, ml_X5_96⟩) im_X5_leftAt se_X5_leftAt (by decide) ga10 gs11 rfl (Nat.le_of_ble_eq_true rfl) en16 (s_X5_leftAt e14) ?_
    obtain ⟨⟨ga17, gs18⟩, h⟩ := gd_t h
    obtain ⟨v19, M20, e21, h⟩ := bnd2_t h
    obtain ⟨n22, en23, e21⟩ := cal_t e21
    refine e_callV (As := [.int v12]) (st := []) (a := a0) (ci := 5) false dX5_truthOf_44 mw_X5_truthAt (Or.inl ⟨rfl, ml_X5_79⟩) im_X5_truthAt se_X5_truthAt (by decide) ga17 gs18 rfl (Nat.le_of_ble_eq_true rfl) en23 (s_X5_truthAt e21) ?_
    refine a_ldc2 dX5_truthOf_47 co_X5_83 ?_
    refine a_lxor dX5_truthOf_50 ?_
    refine a_aload_n dX5_truthOf_51 rfl rfl ?_
    refine a_aload_n dX5_truthOf_52 rfl rfl ?_
    refine a_iload_n dX5_truthOf_53 rfl rfl ?_
    obtain ⟨⟨ga24, gs25⟩, h⟩ := gd_t h
    obtain ⟨v26, M27, e28, h⟩ := bnd2_t h
    obtain ⟨n29, en30, e28⟩ := cal_t e28
    refine e_callV (As := [.int x1]) (st := [.ref a0, .long (v19 ^^^ (-1))]) (a := a0) (ci := 5) false dX5_truthOf_54 mw_X5_rightAt (Or.inl ⟨rfl, ml_X5_99⟩) im_X5_rightAt se_X5_rightAt (by decide) ga24 gs25 rfl (Nat.le_of_ble_eq_true rfl) en30 (s_X5_rightAt e28) ?_
    obtain ⟨⟨ga31, gs32⟩, h⟩ := gd_t h
    obtain ⟨v33, M34, e35, h⟩ := bnd2_t h
    obtain ⟨n36, en37, e35⟩ := cal_t e35
    refine e_callV (As := [.int v26]) (st := [.long (v19 ^^^ (-1))]) (a := a0) (ci := 5) false dX5_truthOf_57 mw_X5_truthAt (Or.inl ⟨rfl, ml_X5_79⟩) im_X5_truthAt se_X5_truthAt (by decide) ga31 gs32 rfl (Nat.le_of_ble_eq_true rfl) en37 (s_X5_truthAt e35) ?_
    refine a_lor dX5_truthOf_60 ?_
    exact a_lret dX5_truthOf_61 rfl (hR _ _ h)
  replace h := ite_f c9 h
  by_cases c38 : v3 = 10
  · replace h := ite_t c38 h
    refine a_tableIn (off := 55) 62 dX5_truthOf_7 (by rw [c38]; decide) (by rw [c38]; decide) (by rw [c38]; rfl) (by decide) ?_
    refine a_aload_n dX5_truthOf_62 rfl rfl ?_
    refine a_aload_n dX5_truthOf_63 rfl rfl ?_
    refine a_iload_n dX5_truthOf_64 rfl rfl ?_
    obtain ⟨⟨ga39, gs40⟩, h⟩ := gd_t h
    obtain ⟨v41, M42, e43, h⟩ := bnd2_t h
    obtain ⟨n44, en45, e43⟩ := cal_t e43
    refine e_callV (As := [.int x1]) (st := [.ref a0]) (a := a0) (ci := 5) false dX5_truthOf_65 mw_X5_leftAt (Or.inl ⟨rfl, ml_X5_96⟩) im_X5_leftAt se_X5_leftAt (by decide) ga39 gs40 rfl (Nat.le_of_ble_eq_true rfl) en45 (s_X5_leftAt e43) ?_
    obtain ⟨⟨ga46, gs47⟩, h⟩ := gd_t h
    obtain ⟨v48, M49, e50, h⟩ := bnd2_t h
    obtain ⟨n51, en52, e50⟩ := cal_t e50
    refine e_callV (As := [.int v41]) (st := []) (a := a0) (ci := 5) false dX5_truthOf_68 mw_X5_truthAt (Or.inl ⟨rfl, ml_X5_79⟩) im_X5_truthAt se_X5_truthAt (by decide) ga46 gs47 rfl (Nat.le_of_ble_eq_true rfl) en52 (s_X5_truthAt e50) ?_
    refine a_aload_n dX5_truthOf_71 rfl rfl ?_
    refine a_aload_n dX5_truthOf_72 rfl rfl ?_
    refine a_iload_n dX5_truthOf_73 rfl rfl ?_
    obtain ⟨⟨ga53, gs54⟩, h⟩ := gd_t h
    obtain ⟨v55, M56, e57, h⟩ := bnd2_t h
    obtain ⟨n58, en59, e57⟩ := cal_t e57
    refine e_callV (As := [.int x1]) (st := [.ref a0, .long v48]) (a := a0) (ci := 5) false dX5_truthOf_74 mw_X5_rightAt (Or.inl ⟨rfl, ml_X5_99⟩) im_X5_rightAt se_X5_rightAt (by decide) ga53 gs54 rfl (Nat.le_of_ble_eq_true rfl) en59 (s_X5_rightAt e57) ?_
    obtain ⟨⟨ga60, gs61⟩, h⟩ := gd_t h
    obtain ⟨v62, M63, e64, h⟩ := bnd2_t h
    obtain ⟨n65, en66, e64⟩ := cal_t e64
    refine e_callV (As := [.int v55]) (st := [.long v48]) (a := a0) (ci := 5) false dX5_truthOf_77 mw_X5_truthAt (Or.inl ⟨rfl, ml_X5_79⟩) im_X5_truthAt se_X5_truthAt (by decide) ga60 gs61 rfl (Nat.le_of_ble_eq_true rfl) en66 (s_X5_truthAt e64) ?_
    refine a_land dX5_truthOf_80 ?_
    exact a_lret dX5_truthOf_81 rfl (hR _ _ h)
  replace h := ite_f c38 h
  by_cases c67 : v3 = 11
  · replace h := ite_t c67 h
    refine a_tableIn (off := 75) 82 dX5_truthOf_7 (by rw [c67]; decide) (by rw [c67]; decide) (by rw [c67]; rfl) (by decide) ?_
    refine a_aload_n dX5_truthOf_82 rfl rfl ?_
    refine a_aload_n dX5_truthOf_83 rfl rfl ?_
    refine a_iload_n dX5_truthOf_84 rfl rfl ?_
    obtain ⟨⟨ga68, gs69⟩, h⟩ := gd_t h
    obtain ⟨v70, M71, e72, h⟩ := bnd2_t h
    obtain ⟨n73, en74, e72⟩ := cal_t e72
    refine e_callV (As := [.int x1]) (st := [.ref a0]) (a := a0) (ci := 5) false dX5_truthOf_85 mw_X5_leftAt (Or.inl ⟨rfl, ml_X5_96⟩) im_X5_leftAt se_X5_leftAt (by decide) ga68 gs69 rfl (Nat.le_of_ble_eq_true rfl) en74 (s_X5_leftAt e72) ?_
    obtain ⟨⟨ga75, gs76⟩, h⟩ := gd_t h
    obtain ⟨v77, M78, e79, h⟩ := bnd2_t h
    obtain ⟨n80, en81, e79⟩ := cal_t e79
    refine e_callV (As := [.int v70]) (st := []) (a := a0) (ci := 5) false dX5_truthOf_88 mw_X5_truthAt (Or.inl ⟨rfl, ml_X5_79⟩) im_X5_truthAt se_X5_truthAt (by decide) ga75 gs76 rfl (Nat.le_of_ble_eq_true rfl) en81 (s_X5_truthAt e79) ?_
    refine a_aload_n dX5_truthOf_91 rfl rfl ?_
    refine a_aload_n dX5_truthOf_92 rfl rfl ?_
    refine a_iload_n dX5_truthOf_93 rfl rfl ?_
    obtain ⟨⟨ga82, gs83⟩, h⟩ := gd_t h
    obtain ⟨v84, M85, e86, h⟩ := bnd2_t h
    obtain ⟨n87, en88, e86⟩ := cal_t e86
    refine e_callV (As := [.int x1]) (st := [.ref a0, .long v77]) (a := a0) (ci := 5) false dX5_truthOf_94 mw_X5_rightAt (Or.inl ⟨rfl, ml_X5_99⟩) im_X5_rightAt se_X5_rightAt (by decide) ga82 gs83 rfl (Nat.le_of_ble_eq_true rfl) en88 (s_X5_rightAt e86) ?_
    obtain ⟨⟨ga89, gs90⟩, h⟩ := gd_t h
    obtain ⟨v91, M92, e93, h⟩ := bnd2_t h
    obtain ⟨n94, en95, e93⟩ := cal_t e93
    refine e_callV (As := [.int v84]) (st := [.long v77]) (a := a0) (ci := 5) false dX5_truthOf_97 mw_X5_truthAt (Or.inl ⟨rfl, ml_X5_79⟩) im_X5_truthAt se_X5_truthAt (by decide) ga89 gs90 rfl (Nat.le_of_ble_eq_true rfl) en95 (s_X5_truthAt e93) ?_
    refine a_lor dX5_truthOf_100 ?_
    exact a_lret dX5_truthOf_101 rfl (hR _ _ h)
  replace h := ite_f c67 h
  refine a_tableOut 102 dX5_truthOf_7 (by have q0 := ne_toInt (z := 8) c8 rfl; have q1 := ne_toInt (z := 9) c9 rfl; have q2 := ne_toInt (z := 10) c38 rfl; have q3 := ne_toInt (z := 11) c67 rfl; omega) (by decide) ?_
  refine a_iload_n dX5_truthOf_102 rfl rfl ?_
  refine a_if_lt 118 dX5_truthOf_103 (by decide) (fun c96 => ?_) (fun c96 => ?_)
  · replace h := ite_t c96 h
    exact a_lv (lv2 := [(2, .int x2), (3, .int v3)]) (fa_cons rfl (fa_cons rfl fa_nil)) (hJ _ _ _ h)
  · replace h := ite_f c96 h
    refine a_iload_n dX5_truthOf_106 rfl rfl ?_
    refine a_bipush (v := 6) dX5_truthOf_107 (by decide) ?_
    refine a_icmp_ge 118 dX5_truthOf_109 (by decide) (fun c97 => ?_) (fun c97 => ?_)
    · replace h := ite_t c97 h
      exact a_lv (lv2 := [(2, .int x2), (3, .int v3)]) (fa_cons rfl (fa_cons rfl fa_nil)) (hJ _ _ _ h)
    · replace h := ite_f c97 h
      refine a_stAP dX5_truthOf_112 sf_X5_102 ?_
      refine a_iload_n dX5_truthOf_115 rfl rfl ?_
      obtain ⟨gi98, h⟩ := gd_t h
      refine a_ldAP dX5_truthOf_116 gi98 ?_
      exact a_lret dX5_truthOf_117 rfl (hR _ _ h)
set_option maxHeartbeats 4000000 in
set_option maxRecDepth 100000 in
noncomputable def T_X5_truthOf_118.{u} {α : Sort u} (J : Nat → List Value → Mem → α) (R : Int64 → Mem → α) (N : α) (n : Nat) (x2 : Int32) (x3 : Int32) (M : Mem) : α := if ((x2 >>> ((x3 - 6) &&& 31)) &&& 1) = 0 then R 0 M else R (-1) M
set_option maxHeartbeats 4000000 in
set_option maxRecDepth 100000 in
theorem n_X5_truthOf_118.{u, v} {α : Sort u} {β : Sort v} (h : α → β) (J : Nat → List Value → Mem → α) (R : Int64 → Mem → α) (N : α) (n : Nat) (x2 : Int32) (x3 : Int32) (M : Mem) : h (T_X5_truthOf_118 J R N n x2 x3 M) = T_X5_truthOf_118 (fun c l M => h (J c l M)) (fun v M => h (R v M)) (h N) n x2 x3 M := by
  simp only [T_X5_truthOf_118, nat_ite h, nat_gd h, nat_bnd h, nat_bnd2 h]
set_option maxHeartbeats 4000000 in
set_option maxRecDepth 100000 in
theorem w_X5_truthOf_118 {X : Nat × (Nat → Int32)} {al : Bool} {n : Nat} {Q : Option Value → Mem → Prop} {J : Nat → List Value → Mem → Prop} (hJ : ∀ c l M, J c l M → PW_X5_truthOf X al n Q c l M) {R : Int64 → Mem → Prop} (hR : ∀ v M, R v M → Q (some (.long v)) M) {x2 : Int32} {x3 : Int32} {M : Mem} (h : T_X5_truthOf_118 J R False n x2 x3 M) : AW X (RX5, cX5_truthOf, 4, (some .long), false, al, n) 0 0 118 [(2, .int x2), (3, .int x3)] [] M Q := by
  unfold T_X5_truthOf_118 at h
  refine a_iload_n dX5_truthOf_118 rfl rfl ?_
  refine a_iload_n dX5_truthOf_119 rfl rfl ?_
  refine a_bipush (v := 6) dX5_truthOf_120 (by decide) ?_
  refine a_isub dX5_truthOf_122 ?_
  refine a_ishr dX5_truthOf_123 ?_
  refine a_iconst (v := 1) dX5_truthOf_124 (by decide) ?_
  refine a_iand dX5_truthOf_125 ?_
  refine a_if_eq 135 dX5_truthOf_126 (by decide) (fun c1 => ?_) (fun c1 => ?_)
  · replace h := ite_t c1 h
    refine a_lconst (v := 0) dX5_truthOf_135 (by decide) ?_
    exact a_lret dX5_truthOf_136 rfl (hR _ _ h)
  · replace h := ite_f c1 h
    refine a_ldc2 dX5_truthOf_129 co_X5_83 ?_
    refine a_goto 136 dX5_truthOf_132 (by decide) ?_
    exact a_lret dX5_truthOf_136 rfl (hR _ _ h)
set_option maxHeartbeats 4000000 in
set_option maxRecDepth 100000 in
noncomputable def st_X5_truthOf (n : Nat) (s : Sg) : Option (Sg ⊕ (Int64 × Mem)) := if s.1 = 0 then vR s.2.1 none (fun a0 t => vI t none (fun x1 t => vI t none (fun x2 t => vE t none (T_X5_truthOf_0 (fun c l M => some (.inl (c, l, M))) (fun v M => some (.inr (v, M))) none n a0 x1 x2 s.2.2)))) else if s.1 = 118 then vI s.2.1 none (fun x2 t => vI t none (fun x3 t => vE t none (T_X5_truthOf_118 (fun c l M => some (.inl (c, l, M))) (fun v M => some (.inr (v, M))) none n x2 x3 s.2.2))) else none
noncomputable abbrev g_X5_truthOf_0 (n : Nat) (a0 : Nat) (x1 : Int32) (x2 : Int32) (M : Mem) : Option (Int64 × Mem) := lp (st_X5_truthOf n) (0, [.ref a0, .int x1, .int x2], M)
set_option maxHeartbeats 4000000 in
set_option maxRecDepth 100000 in
theorem ge_X5_truthOf_0 (n : Nat) (a0 : Nat) (x1 : Int32) (x2 : Int32) (M : Mem) : g_X5_truthOf_0 n a0 x1 x2 M = T_X5_truthOf_0 (fun c l M => lp (st_X5_truthOf n) (c, l, M)) (fun v M => some (v, M)) none n a0 x1 x2 M := (lp_eq _ _).trans (n_X5_truthOf_0 (lpK (st_X5_truthOf n)) (fun c l M => some (.inl (c, l, M))) (fun v M => some (.inr (v, M))) none n a0 x1 x2 M)
noncomputable abbrev g_X5_truthOf_118 (n : Nat) (x2 : Int32) (x3 : Int32) (M : Mem) : Option (Int64 × Mem) := lp (st_X5_truthOf n) (118, [.int x2, .int x3], M)
set_option maxHeartbeats 4000000 in
set_option maxRecDepth 100000 in
theorem ge_X5_truthOf_118 (n : Nat) (x2 : Int32) (x3 : Int32) (M : Mem) : g_X5_truthOf_118 n x2 x3 M = T_X5_truthOf_118 (fun c l M => lp (st_X5_truthOf n) (c, l, M)) (fun v M => some (v, M)) none n x2 x3 M := (lp_eq _ _).trans (n_X5_truthOf_118 (lpK (st_X5_truthOf n)) (fun c l M => some (.inl (c, l, M))) (fun v M => some (.inr (v, M))) none n x2 x3 M)
noncomputable def b_X5_truthOf (n : Nat) (a0 : Nat) (x1 : Int32) (x2 : Int32) (M : Mem) : Option (Int64 × Mem) := g_X5_truthOf_0 n a0 x1 x2 M
set_option maxHeartbeats 4000000 in
set_option maxRecDepth 100000 in
theorem sb_X5_truthOf {X : Nat × (Nat → Int32)} {al : Bool} {n : Nat} {a0 : Nat} {x1 : Int32} {x2 : Int32} {M : Mem} {v : Int64} {M1 : Mem} (h : b_X5_truthOf n a0 x1 x2 M = some (v, M1)) : AE yX5_truthOf cX5_truthOf 4 (some .long) al n X [.ref a0, .int x1, .int x2] M (some (.long v)) M1 := by
  refine AM.of false (by decide +kernel) (by intro h; cases h) (Nat.le_of_ble_eq_true rfl) ?_
  refine lp_snd (P := fun s r => PW_X5_truthOf X al n (fun v M2 => v = (some (.long r.1)) ∧ M2 = r.2) s.1 s.2.1 s.2.2) ?_ h
  clear h
  rintro ⟨c, l, M⟩ r h
  unfold st_X5_truthOf at h
  rcases ite_p h with ⟨e, h⟩ | ⟨e, h⟩
  · replace e : c = 0 := e
    subst e
    obtain ⟨a0, tt0, e, h⟩ := vR_p id h
    replace e : l = _ := e
    subst e
    obtain ⟨x1, tt1, e, h⟩ := vI_p id h
    replace e : tt0 = _ := e
    subst e
    obtain ⟨x2, tt2, e, h⟩ := vI_p id h
    replace e : tt1 = _ := e
    subst e
    obtain ⟨e, h⟩ := vE_p id h
    replace e : tt2 = [] := e
    subst e
    exact w_X5_truthOf_0 (J := fun c l M => PW_X5_truthOf X al n (fun v M2 => v = (some (.long r.1)) ∧ M2 = r.2) c l M) (R := fun v M => (v, M) = r) (fun _ _ _ h => h) (fun v M h => by cases h; exact ⟨rfl, rfl⟩) ((n_X5_truthOf_0 (lpP (fun (s : Sg) (r : Int64 × Mem) => PW_X5_truthOf X al n (fun v M2 => v = (some (.long r.1)) ∧ M2 = r.2) s.1 s.2.1 s.2.2) r) (fun c l M => some (.inl (c, l, M))) (fun v M => some (.inr (v, M))) none n a0 x1 x2 M).mp h)
  rcases ite_p h with ⟨e, h⟩ | ⟨e, h⟩
  · replace e : c = 118 := e
    subst e
    obtain ⟨x2, tt0, e, h⟩ := vI_p id h
    replace e : l = _ := e
    subst e
    obtain ⟨x3, tt1, e, h⟩ := vI_p id h
    replace e : tt0 = _ := e
    subst e
    obtain ⟨e, h⟩ := vE_p id h
    replace e : tt1 = [] := e
    subst e
    exact w_X5_truthOf_118 (J := fun c l M => PW_X5_truthOf X al n (fun v M2 => v = (some (.long r.1)) ∧ M2 = r.2) c l M) (R := fun v M => (v, M) = r) (fun _ _ _ h => h) (fun v M h => by cases h; exact ⟨rfl, rfl⟩) ((n_X5_truthOf_118 (lpP (fun (s : Sg) (r : Int64 × Mem) => PW_X5_truthOf X al n (fun v M2 => v = (some (.long r.1)) ∧ M2 = r.2) s.1 s.2.1 s.2.2) r) (fun c l M => some (.inl (c, l, M))) (fun v M => some (.inr (v, M))) none n x2 x3 M).mp h)
  · exact h.elim

noncomputable abbrev f_X5_truthOf := b_X5_truthOf
theorem s_X5_truthOf {X : Nat × (Nat → Int32)} {al : Bool} {n : Nat} {a0 : Nat} {x1 : Int32} {x2 : Int32} {M : Mem} {v : Int64} {M1 : Mem} (h : f_X5_truthOf n a0 x1 x2 M = some (v, M1)) : AE yX5_truthOf cX5_truthOf 4 (some .long) al n X [.ref a0, .int x1, .int x2] M (some (.long v)) M1 := sb_X5_truthOf h
def ix_X5_fillTruths (c : Nat) : List Nat := if c = 0 then [0, 1] else if c = 2 then [0, 1, 2] else []
def PW_X5_fillTruths (X : Nat × (Nat → Int32)) (al : Bool) (n : Nat) (Q : Option Value → Mem → Prop) (c : Nat) (l : List Value) (M : Mem) : Prop := AW X (RX5, cX5_fillTruths, 3, none, false, al, n) 0 0 c (List.zip (ix_X5_fillTruths c) l) (l.drop (ix_X5_fillTruths c).length) M Q
set_option maxHeartbeats 4000000 in
set_option maxRecDepth 100000 in
noncomputable def T_X5_fillTruths_0.{u} {α : Sort u} (J : Nat → List Value → Mem → α) (R : Unit → Mem → α) (N : α) (n : Nat) (a0 : Nat) (x1 : Int32) (M : Mem) : α := J 2 [.ref a0, .int x1, .int 0] M
set_option maxHeartbeats 4000000 in
set_option maxRecDepth 100000 in
theorem n_X5_fillTruths_0.{u, v} {α : Sort u} {β : Sort v} (h : α → β) (J : Nat → List Value → Mem → α) (R : Unit → Mem → α) (N : α) (n : Nat) (a0 : Nat) (x1 : Int32) (M : Mem) : h (T_X5_fillTruths_0 J R N n a0 x1 M) = T_X5_fillTruths_0 (fun c l M => h (J c l M)) (fun v M => h (R v M)) (h N) n a0 x1 M := by
  simp only [T_X5_fillTruths_0, nat_ite h, nat_gd h, nat_bnd h, nat_bnd2 h]
set_option maxHeartbeats 4000000 in
set_option maxRecDepth 100000 in
theorem w_X5_fillTruths_0 {X : Nat × (Nat → Int32)} {al : Bool} {n : Nat} {Q : Option Value → Mem → Prop} {J : Nat → List Value → Mem → Prop} (hJ : ∀ c l M, J c l M → PW_X5_fillTruths X al n Q c l M) {R : Unit → Mem → Prop} (hR : ∀ v M, R v M → Q none M) {a0 : Nat} {x1 : Int32} {M : Mem} (h : T_X5_fillTruths_0 J R False n a0 x1 M) : AW X (RX5, cX5_fillTruths, 3, none, false, al, n) 0 0 0 [(0, .ref a0), (1, .int x1)] [] M Q := by
  unfold T_X5_fillTruths_0 at h
  refine a_iconst (v := 0) dX5_fillTruths_0 (by decide) ?_
  refine a_istore_n dX5_fillTruths_1 rfl (Nat.le_of_ble_eq_true rfl) (lv2 := [(2, .int 0), (0, .ref a0), (1, .int x1)]) rfl ?_
  exact a_lv (lv2 := [(0, .ref a0), (1, .int x1), (2, .int 0)]) (fa_cons rfl (fa_cons rfl (fa_cons rfl fa_nil))) (hJ _ _ _ h)
set_option maxHeartbeats 4000000 in
set_option maxRecDepth 100000 in
noncomputable def T_X5_fillTruths_2.{u} {α : Sort u} (J : Nat → List Value → Mem → α) (R : Unit → Mem → α) (N : α) (n : Nat) (a0 : Nat) (x1 : Int32) (x2 : Int32) (M : Mem) : α := gd (fO M a0 5) N (if (M.2.2.1 a0 6) ≤ x2 then R () M else if 420 ≤ x2 then R () M else bnd (M.2.2.2.2 a0 5) N (fun r5 => bnd2 (cal n (fun n => f_X5_truthOf n a0 x2 x1 M)) N (fun v7 M8 => gd (fA M8 r5 2 x2) N (J 2 [.ref a0, .int x1, .int (x2 + 1)] (wJ M8 r5 (x2.toNatClampNeg) v7)))))
set_option maxHeartbeats 4000000 in
set_option maxRecDepth 100000 in
theorem n_X5_fillTruths_2.{u, v} {α : Sort u} {β : Sort v} (h : α → β) (J : Nat → List Value → Mem → α) (R : Unit → Mem → α) (N : α) (n : Nat) (a0 : Nat) (x1 : Int32) (x2 : Int32) (M : Mem) : h (T_X5_fillTruths_2 J R N n a0 x1 x2 M) = T_X5_fillTruths_2 (fun c l M => h (J c l M)) (fun v M => h (R v M)) (h N) n a0 x1 x2 M := by
  simp only [T_X5_fillTruths_2, nat_ite h, nat_gd h, nat_bnd h, nat_bnd2 h]
set_option maxHeartbeats 4000000 in
set_option maxRecDepth 100000 in
theorem w_X5_fillTruths_2 {X : Nat × (Nat → Int32)} {al : Bool} {n : Nat} {Q : Option Value → Mem → Prop} {J : Nat → List Value → Mem → Prop} (hJ : ∀ c l M, J c l M → PW_X5_fillTruths X al n Q c l M) {R : Unit → Mem → Prop} (hR : ∀ v M, R v M → Q none M) {a0 : Nat} {x1 : Int32} {x2 : Int32} {M : Mem} (h : T_X5_fillTruths_2 J R False n a0 x1 x2 M) : AW X (RX5, cX5_fillTruths, 3, none, false, al, n) 0 0 2 [(0, .ref a0), (1, .int x1), (2, .int x2)] [] M Q := by
  unfold T_X5_fillTruths_2 at h
  refine a_iload_n dX5_fillTruths_2 rfl rfl ?_
  refine a_aload_n dX5_fillTruths_3 rfl rfl ?_
  obtain ⟨⟨ga1, gs2⟩, h⟩ := gd_t h
  refine a_get (v := .int (M.2.2.1 a0 6)) dX5_fillTruths_4 fl_5_51 ga1 gs2 rfl ?_
  refine a_icmp_ge 35 dX5_fillTruths_7 (by decide) (fun c3 => ?_) (fun c3 => ?_)
  · replace h := ite_t c3 h
    exact a_vret dX5_fillTruths_35 rfl (hR _ _ h)
  · replace h := ite_f c3 h
    refine a_iload_n dX5_fillTruths_10 rfl rfl ?_
    refine a_sipush (v := 420) dX5_fillTruths_11 (by decide) ?_
    refine a_icmp_ge 35 dX5_fillTruths_14 (by decide) (fun c4 => ?_) (fun c4 => ?_)
    · replace h := ite_t c4 h
      exact a_vret dX5_fillTruths_35 rfl (hR _ _ h)
    · replace h := ite_f c4 h
      refine a_aload_n dX5_fillTruths_17 rfl rfl ?_
      obtain ⟨r5, e6, h⟩ := bnd_t h
      refine a_get (v := .ref r5) dX5_fillTruths_18 fl_5_26 ga1 gs2 (gvR e6 rfl) ?_
      refine a_iload_n dX5_fillTruths_21 rfl rfl ?_
      refine a_aload_n dX5_fillTruths_22 rfl rfl ?_
      refine a_iload_n dX5_fillTruths_23 rfl rfl ?_
      refine a_iload_n dX5_fillTruths_24 rfl rfl ?_
      obtain ⟨v7, M8, e9, h⟩ := bnd2_t h
      obtain ⟨n10, en11, e9⟩ := cal_t e9
      refine e_callV (As := [.int x2, .int x1]) (st := [.int x2, .ref r5]) (a := a0) (ci := 5) false dX5_fillTruths_25 mw_X5_truthOf (Or.inl ⟨rfl, ml_X5_89⟩) im_X5_truthOf se_X5_truthOf (by decide) ga1 gs2 rfl (Nat.le_of_ble_eq_true rfl) en11 (s_X5_truthOf e9) ?_
      obtain ⟨⟨ga12, gn13, gs14, gi15⟩, h⟩ := gd_t h
      refine a_lastore dX5_fillTruths_28 ga12 gs14 gi15 ?_
      refine a_iinc (v := (x2 + 1)) dX5_fillTruths_29 rfl (by first | rfl | decide) (Nat.le_of_ble_eq_true rfl) (lv2 := [(2, .int (x2 + 1)), (0, .ref a0), (1, .int x1)]) rfl ?_
      refine a_goto 2 dX5_fillTruths_32 (by decide) ?_
      exact a_lv (lv2 := [(0, .ref a0), (1, .int x1), (2, .int (x2 + 1))]) (fa_cons rfl (fa_cons rfl (fa_cons rfl fa_nil))) (hJ _ _ _ h)
set_option maxHeartbeats 4000000 in
set_option maxRecDepth 100000 in
noncomputable def st_X5_fillTruths (n : Nat) (s : Sg) : Option (Sg ⊕ (Unit × Mem)) := if s.1 = 0 then vR s.2.1 none (fun a0 t => vI t none (fun x1 t => vE t none (T_X5_fillTruths_0 (fun c l M => some (.inl (c, l, M))) (fun v M => some (.inr (v, M))) none n a0 x1 s.2.2))) else if s.1 = 2 then vR s.2.1 none (fun a0 t => vI t none (fun x1 t => vI t none (fun x2 t => vE t none (T_X5_fillTruths_2 (fun c l M => some (.inl (c, l, M))) (fun v M => some (.inr (v, M))) none n a0 x1 x2 s.2.2)))) else none
noncomputable abbrev g_X5_fillTruths_0 (n : Nat) (a0 : Nat) (x1 : Int32) (M : Mem) : Option (Unit × Mem) := lp (st_X5_fillTruths n) (0, [.ref a0, .int x1], M)
set_option maxHeartbeats 4000000 in
set_option maxRecDepth 100000 in
theorem ge_X5_fillTruths_0 (n : Nat) (a0 : Nat) (x1 : Int32) (M : Mem) : g_X5_fillTruths_0 n a0 x1 M = T_X5_fillTruths_0 (fun c l M => lp (st_X5_fillTruths n) (c, l, M)) (fun v M => some (v, M)) none n a0 x1 M := (lp_eq _ _).trans (n_X5_fillTruths_0 (lpK (st_X5_fillTruths n)) (fun c l M => some (.inl (c, l, M))) (fun v M => some (.inr (v, M))) none n a0 x1 M)
noncomputable abbrev g_X5_fillTruths_2 (n : Nat) (a0 : Nat) (x1 : Int32) (x2 : Int32) (M : Mem) : Option (Unit × Mem) := lp (st_X5_fillTruths n) (2, [.ref a0, .int x1, .int x2], M)
set_option maxHeartbeats 4000000 in
set_option maxRecDepth 100000 in
theorem ge_X5_fillTruths_2 (n : Nat) (a0 : Nat) (x1 : Int32) (x2 : Int32) (M : Mem) : g_X5_fillTruths_2 n a0 x1 x2 M = T_X5_fillTruths_2 (fun c l M => lp (st_X5_fillTruths n) (c, l, M)) (fun v M => some (v, M)) none n a0 x1 x2 M := (lp_eq _ _).trans (n_X5_fillTruths_2 (lpK (st_X5_fillTruths n)) (fun c l M => some (.inl (c, l, M))) (fun v M => some (.inr (v, M))) none n a0 x1 x2 M)
noncomputable def b_X5_fillTruths (n : Nat) (a0 : Nat) (x1 : Int32) (M : Mem) : Option (Unit × Mem) := g_X5_fillTruths_0 n a0 x1 M
set_option maxHeartbeats 4000000 in
set_option maxRecDepth 100000 in
theorem sb_X5_fillTruths {X : Nat × (Nat → Int32)} {al : Bool} {n : Nat} {a0 : Nat} {x1 : Int32} {M : Mem} {v : Unit} {M1 : Mem} (h : b_X5_fillTruths n a0 x1 M = some (v, M1)) : AE yX5_fillTruths cX5_fillTruths 3 none al n X [.ref a0, .int x1] M none M1 := by
  refine AM.of false (by decide +kernel) (by intro h; cases h) (Nat.le_of_ble_eq_true rfl) ?_
  refine lp_snd (P := fun s r => PW_X5_fillTruths X al n (fun v M2 => v = none ∧ M2 = r.2) s.1 s.2.1 s.2.2) ?_ h
  clear h
  rintro ⟨c, l, M⟩ r h
  unfold st_X5_fillTruths at h
  rcases ite_p h with ⟨e, h⟩ | ⟨e, h⟩
  · replace e : c = 0 := e
    subst e
    obtain ⟨a0, tt0, e, h⟩ := vR_p id h
    replace e : l = _ := e
    subst e
    obtain ⟨x1, tt1, e, h⟩ := vI_p id h
    replace e : tt0 = _ := e
    subst e
    obtain ⟨e, h⟩ := vE_p id h
    replace e : tt1 = [] := e
    subst e
    exact w_X5_fillTruths_0 (J := fun c l M => PW_X5_fillTruths X al n (fun v M2 => v = none ∧ M2 = r.2) c l M) (R := fun v M => (v, M) = r) (fun _ _ _ h => h) (fun v M h => by cases h; exact ⟨rfl, rfl⟩) ((n_X5_fillTruths_0 (lpP (fun (s : Sg) (r : Unit × Mem) => PW_X5_fillTruths X al n (fun v M2 => v = none ∧ M2 = r.2) s.1 s.2.1 s.2.2) r) (fun c l M => some (.inl (c, l, M))) (fun v M => some (.inr (v, M))) none n a0 x1 M).mp h)
  rcases ite_p h with ⟨e, h⟩ | ⟨e, h⟩
  · replace e : c = 2 := e
    subst e
    obtain ⟨a0, tt0, e, h⟩ := vR_p id h
    replace e : l = _ := e
    subst e
    obtain ⟨x1, tt1, e, h⟩ := vI_p id h
    replace e : tt0 = _ := e
    subst e
    obtain ⟨x2, tt2, e, h⟩ := vI_p id h
    replace e : tt1 = _ := e
    subst e
    obtain ⟨e, h⟩ := vE_p id h
    replace e : tt2 = [] := e
    subst e
    exact w_X5_fillTruths_2 (J := fun c l M => PW_X5_fillTruths X al n (fun v M2 => v = none ∧ M2 = r.2) c l M) (R := fun v M => (v, M) = r) (fun _ _ _ h => h) (fun v M h => by cases h; exact ⟨rfl, rfl⟩) ((n_X5_fillTruths_2 (lpP (fun (s : Sg) (r : Unit × Mem) => PW_X5_fillTruths X al n (fun v M2 => v = none ∧ M2 = r.2) s.1 s.2.1 s.2.2) r) (fun c l M => some (.inl (c, l, M))) (fun v M => some (.inr (v, M))) none n a0 x1 x2 M).mp h)
  · exact h.elim

noncomputable abbrev f_X5_fillTruths := b_X5_fillTruths
theorem s_X5_fillTruths {X : Nat × (Nat → Int32)} {al : Bool} {n : Nat} {a0 : Nat} {x1 : Int32} {M : Mem} {v : Unit} {M1 : Mem} (h : f_X5_fillTruths n a0 x1 M = some (v, M1)) : AE yX5_fillTruths cX5_fillTruths 3 none al n X [.ref a0, .int x1] M none M1 := sb_X5_fillTruths h
