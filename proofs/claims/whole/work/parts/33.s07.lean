/-! METHODS AS FUNCTIONS, written by wip/gen/shallow.py -/
set_option maxHeartbeats 4000000 in
set_option maxRecDepth 100000 in
noncomputable def T_X11_settles_0.{u} {α : Sort u} (R : Int32 → Mem → α) (N : α) (n : Nat) (a0 : Nat) (M : Mem) : α := gd (fO M a0 11) N (R ((wI (wI M a0 32 (M.2.2.1 a0 30)) a0 33 ((wI M a0 32 (M.2.2.1 a0 30)).2.2.1 a0 31)).2.2.1 a0 30) (wI (wI M a0 32 (M.2.2.1 a0 30)) a0 33 ((wI M a0 32 (M.2.2.1 a0 30)).2.2.1 a0 31)))
set_option maxHeartbeats 4000000 in
set_option maxRecDepth 100000 in
theorem n_X11_settles_0.{u, v} {α : Sort u} {β : Sort v} (h : α → β) (R : Int32 → Mem → α) (N : α) (n : Nat) (a0 : Nat) (M : Mem) : h (T_X11_settles_0 R N n a0 M) = T_X11_settles_0 (fun v M => h (R v M)) (h N) n a0 M := by
  simp only [T_X11_settles_0, nat_ite h, nat_gd h, nat_bnd h, nat_bnd2 h]
set_option maxHeartbeats 4000000 in
set_option maxRecDepth 100000 in
theorem w_X11_settles_0 {X : Nat × (Nat → Int32)} {al : Bool} {n : Nat} {Q : Option Value → Mem → Prop} {R : Int32 → Mem → Prop} (hR : ∀ v M, R v M → Q (some (.int v)) M) {a0 : Nat} {M : Mem} (h : T_X11_settles_0 R False n a0 M) : AW X (RX11, cX11_settles, 1, (some .int), false, al, n) 0 0 0 [(0, .ref a0)] [] M Q := by
  unfold T_X11_settles_0 at h
  refine a_aload_n dX11_settles_0 rfl rfl ?_
  refine a_aload_n dX11_settles_1 rfl rfl ?_
  obtain ⟨⟨ga1, gs2⟩, h⟩ := gd_t h
  refine a_get (v := .int (M.2.2.1 a0 30)) dX11_settles_2 fl_11_163 ga1 gs2 rfl ?_
  refine a_putI dX11_settles_5 (Or.inl ⟨fl_11_201, Or.inl rfl⟩) rfl ga1 gs2 rfl rfl ?_
  refine a_aload_n dX11_settles_8 rfl rfl ?_
  refine a_aload_n dX11_settles_9 rfl rfl ?_
  refine a_get (v := .int ((wI M a0 32 (M.2.2.1 a0 30)).2.2.1 a0 31)) dX11_settles_10 fl_11_166 ga1 gs2 rfl ?_
  refine a_putI dX11_settles_13 (Or.inl ⟨fl_11_75, Or.inl rfl⟩) rfl ga1 gs2 rfl rfl ?_
  refine a_aload_n dX11_settles_16 rfl rfl ?_
  refine a_get (v := .int ((wI (wI M a0 32 (M.2.2.1 a0 30)) a0 33 ((wI M a0 32 (M.2.2.1 a0 30)).2.2.1 a0 31)).2.2.1 a0 30)) dX11_settles_17 fl_11_163 ga1 gs2 rfl ?_
  exact a_iret dX11_settles_20 rfl (hR _ _ h)
noncomputable def b_X11_settles (n : Nat) (a0 : Nat) (M : Mem) : Option (Int32 × Mem) := T_X11_settles_0 (fun v M => some (v, M)) none n a0 M
set_option maxHeartbeats 4000000 in
set_option maxRecDepth 100000 in
theorem sb_X11_settles {X : Nat × (Nat → Int32)} {al : Bool} {n : Nat} {a0 : Nat} {M : Mem} {v : Int32} {M1 : Mem} (h : b_X11_settles n a0 M = some (v, M1)) : AE yX11_settles cX11_settles 1 (some .int) al n X [.ref a0] M (some (.int v)) M1 := by
  refine AM.of false (by decide +kernel) (by intro h; cases h) (Nat.le_of_ble_eq_true rfl) ?_
  have h2 : T_X11_settles_0 (fun v2 M2 => some (v2, M2) = some (v, M1)) (none = some (v, M1)) n a0 M := (n_X11_settles_0 (fun o => o = some (v, M1)) (fun v M => some (v, M)) none n a0 M).mp h
  have h3 : ((none : Option (Int32 × Mem)) = some (v, M1)) = False := eq_false (by intro q; cases q)
  rw [h3] at h2
  exact w_X11_settles_0 (fun v2 M2 h => by cases h; exact ⟨rfl, rfl⟩) h2

noncomputable abbrev f_X11_settles := b_X11_settles
theorem s_X11_settles {X : Nat × (Nat → Int32)} {al : Bool} {n : Nat} {a0 : Nat} {M : Mem} {v : Int32} {M1 : Mem} (h : f_X11_settles n a0 M = some (v, M1)) : AE yX11_settles cX11_settles 1 (some .int) al n X [.ref a0] M (some (.int v)) M1 := sb_X11_settles h
def ix_X11_hypotheses (c : Nat) : List Nat := if c = 0 then [0, 1] else if c = 32 then [0] else if c = 71 then [0, 2] else if c = 97 then [0, 2] else if c = 135 then [0, 2] else []
def PW_X11_hypotheses (X : Nat × (Nat → Int32)) (al : Bool) (n : Nat) (Q : Option Value → Mem → Prop) (c : Nat) (l : List Value) (M : Mem) : Prop := AW X (RX11, cX11_hypotheses, 3, (some .int), false, al, n) 0 0 c (List.zip (ix_X11_hypotheses c) l) (l.drop (ix_X11_hypotheses c).length) M Q
set_option maxHeartbeats 4000000 in
set_option maxRecDepth 100000 in
noncomputable def T_X11_hypotheses_0.{u} {α : Sort u} (J : Nat → List Value → Mem → α) (R : Int32 → Mem → α) (N : α) (n : Nat) (a0 : Nat) (x1 : Int32) (M : Mem) : α := gd (fO M a0 11) N (bnd2 (cal n (fun n => f_X11_isIn n (Int32.toInt64 x1) 0 (Int32.toInt64 ((wI M a0 0 0).2.2.1 a0 27)) (wI M a0 0 0))) N (fun v3 M4 => if v3 = 0 then R (-3) M4 else gd (fO M4 a0 11) N (bnd2 (cal n (fun n => f_X11_begins n a0 x1 M4)) N (fun _ M11 => gd (fO M11 a0 11) N (J 32 [.ref a0] (wI M11 a0 35 0))))))
set_option maxHeartbeats 4000000 in
set_option maxRecDepth 100000 in
theorem n_X11_hypotheses_0.{u, v} {α : Sort u} {β : Sort v} (h : α → β) (J : Nat → List Value → Mem → α) (R : Int32 → Mem → α) (N : α) (n : Nat) (a0 : Nat) (x1 : Int32) (M : Mem) : h (T_X11_hypotheses_0 J R N n a0 x1 M) = T_X11_hypotheses_0 (fun c l M => h (J c l M)) (fun v M => h (R v M)) (h N) n a0 x1 M := by
  simp only [T_X11_hypotheses_0, nat_ite h, nat_gd h, nat_bnd h, nat_bnd2 h]
set_option maxHeartbeats 4000000 in
set_option maxRecDepth 100000 in
theorem w_X11_hypotheses_0 {X : Nat × (Nat → Int32)} {al : Bool} {n : Nat} {Q : Option Value → Mem → Prop} {J : Nat → List Value → Mem → Prop} (hJ : ∀ c l M, J c l M → PW_X11_hypotheses X al n Q c l M) {R : Int32 → Mem → Prop} (hR : ∀ v M, R v M → Q (some (.int v)) M) {a0 : Nat} {x1 : Int32} {M : Mem} (h : T_X11_hypotheses_0 J R False n a0 x1 M) : AW X (RX11, cX11_hypotheses, 3, (some .int), false, al, n) 0 0 0 [(0, .ref a0), (1, .int x1)] [] M Q := by
  unfold T_X11_hypotheses_0 at h
  refine a_aload_n dX11_hypotheses_0 rfl rfl ?_
  refine a_iconst (v := 0) dX11_hypotheses_1 (by decide) ?_
  obtain ⟨⟨ga1, gs2⟩, h⟩ := gd_t h
  refine a_putI dX11_hypotheses_2 (Or.inl ⟨fl_11_1, Or.inl rfl⟩) rfl ga1 gs2 rfl rfl ?_
  refine a_iload_n dX11_hypotheses_5 rfl rfl ?_
  refine a_i2l dX11_hypotheses_6 ?_
  refine a_lconst (v := 0) dX11_hypotheses_7 (by decide) ?_
  refine a_aload_n dX11_hypotheses_8 rfl rfl ?_
  refine a_get (v := .int ((wI M a0 0 0).2.2.1 a0 27)) dX11_hypotheses_9 fl_11_154 ga1 gs2 rfl ?_
  refine a_i2l dX11_hypotheses_12 ?_
  obtain ⟨v3, M4, e5, h⟩ := bnd2_t h
  obtain ⟨n6, en7, e5⟩ := cal_t e5
  refine e_callS (As := [.long (Int32.toInt64 x1), .long 0, .long (Int32.toInt64 ((wI M a0 0 0).2.2.1 a0 27))]) (st := []) false dX11_hypotheses_13 mw_X11_isIn (Or.inl ⟨rfl, ml_X11_180⟩) sm_X11_isIn rfl (Nat.le_of_ble_eq_true rfl) en7 (s_X11_isIn e5) ?_
  refine a_if_ne 22 dX11_hypotheses_16 (by decide) (fun c8 => ?_) (fun c8 => ?_)
  · replace h := ite_f c8 h
    refine a_aload_n dX11_hypotheses_22 rfl rfl ?_
    refine a_iload_n dX11_hypotheses_23 rfl rfl ?_
    obtain ⟨⟨ga9, gs10⟩, h⟩ := gd_t h
    obtain ⟨_, M11, e12, h⟩ := bnd2_t h
    obtain ⟨n13, en14, e12⟩ := cal_t e12
    refine e_callV (As := [.int x1]) (st := []) (a := a0) (ci := 11) false dX11_hypotheses_24 mw_X11_begins (Or.inl ⟨rfl, ml_X11_234⟩) im_X11_begins se_X11_begins (by decide) ga9 gs10 rfl (Nat.le_of_ble_eq_true rfl) en14 (s_X11_begins e12) ?_
    refine a_aload_n dX11_hypotheses_27 rfl rfl ?_
    refine a_iconst (v := 0) dX11_hypotheses_28 (by decide) ?_
    obtain ⟨⟨ga15, gs16⟩, h⟩ := gd_t h
    refine a_putI dX11_hypotheses_29 (Or.inl ⟨fl_11_224, Or.inl rfl⟩) rfl ga15 gs16 rfl rfl ?_
    exact a_lv (lv2 := [(0, .ref a0)]) (fa_cons rfl fa_nil) (hJ _ _ _ h)
  · replace h := ite_t c8 h
    refine a_bipush (v := -3) dX11_hypotheses_19 (by decide) ?_
    exact a_iret dX11_hypotheses_21 rfl (hR _ _ h)
set_option maxHeartbeats 4000000 in
set_option maxRecDepth 100000 in
noncomputable def T_X11_hypotheses_32.{u} {α : Sort u} (J : Nat → List Value → Mem → α) (R : Int32 → Mem → α) (N : α) (n : Nat) (a0 : Nat) (M : Mem) : α := gd (fO M a0 11) N (bnd2 (cal n (fun n => f_X11_isOver n a0 M)) N (fun v3 M4 => if v3 = 0 then gd (fO M4 a0 11) N (bnd2 (cal n (fun n => f_X11_readHypothesis n a0 M4)) N (fun _ M23 => J 32 [.ref a0] M23)) else gd (fO M4 a0 11) N (bnd2 (cal n (fun n => f_X11_settles n a0 M4)) N (fun v11 M12 => if v11 = 0 then gd (fO M12 a0 11) N (J 71 [.ref a0, .int 0] (wI M12 a0 15 (M12.2.2.1 a0 35))) else gd (fO M12 a0 11) N (R ((-30) - (M12.2.2.1 a0 30)) M12)))))
set_option maxHeartbeats 4000000 in
set_option maxRecDepth 100000 in
theorem n_X11_hypotheses_32.{u, v} {α : Sort u} {β : Sort v} (h : α → β) (J : Nat → List Value → Mem → α) (R : Int32 → Mem → α) (N : α) (n : Nat) (a0 : Nat) (M : Mem) : h (T_X11_hypotheses_32 J R N n a0 M) = T_X11_hypotheses_32 (fun c l M => h (J c l M)) (fun v M => h (R v M)) (h N) n a0 M := by
  simp only [T_X11_hypotheses_32, nat_ite h, nat_gd h, nat_bnd h, nat_bnd2 h]
set_option maxHeartbeats 4000000 in
set_option maxRecDepth 100000 in
theorem w_X11_hypotheses_32 {X : Nat × (Nat → Int32)} {al : Bool} {n : Nat} {Q : Option Value → Mem → Prop} {J : Nat → List Value → Mem → Prop} (hJ : ∀ c l M, J c l M → PW_X11_hypotheses X al n Q c l M) {R : Int32 → Mem → Prop} (hR : ∀ v M, R v M → Q (some (.int v)) M) {a0 : Nat} {M : Mem} (h : T_X11_hypotheses_32 J R False n a0 M) : AW X (RX11, cX11_hypotheses, 3, (some .int), false, al, n) 0 0 32 [(0, .ref a0)] [] M Q := by
  unfold T_X11_hypotheses_32 at h
  refine a_aload_n dX11_hypotheses_32 rfl rfl ?_
  obtain ⟨⟨ga1, gs2⟩, h⟩ := gd_t h
  obtain ⟨v3, M4, e5, h⟩ := bnd2_t h
  obtain ⟨n6, en7, e5⟩ := cal_t e5
  refine e_callV (As := []) (st := []) (a := a0) (ci := 11) false dX11_hypotheses_33 mw_X11_isOver (Or.inl ⟨rfl, ml_X11_237⟩) im_X11_isOver se_X11_isOver (by decide) ga1 gs2 rfl (Nat.le_of_ble_eq_true rfl) en7 (s_X11_isOver e5) ?_
  refine a_if_ne 46 dX11_hypotheses_36 (by decide) (fun c8 => ?_) (fun c8 => ?_)
  · replace h := ite_f c8 h
    refine a_aload_n dX11_hypotheses_46 rfl rfl ?_
    obtain ⟨⟨ga9, gs10⟩, h⟩ := gd_t h
    obtain ⟨v11, M12, e13, h⟩ := bnd2_t h
    obtain ⟨n14, en15, e13⟩ := cal_t e13
    refine e_callV (As := []) (st := []) (a := a0) (ci := 11) false dX11_hypotheses_47 mw_X11_settles (Or.inl ⟨rfl, ml_X11_244⟩) im_X11_settles se_X11_settles (by decide) ga9 gs10 rfl (Nat.le_of_ble_eq_true rfl) en15 (s_X11_settles e13) ?_
    refine a_if_eq 61 dX11_hypotheses_50 (by decide) (fun c16 => ?_) (fun c16 => ?_)
    · replace h := ite_t c16 h
      refine a_aload_n dX11_hypotheses_61 rfl rfl ?_
      refine a_aload_n dX11_hypotheses_62 rfl rfl ?_
      obtain ⟨⟨ga17, gs18⟩, h⟩ := gd_t h
      refine a_get (v := .int (M12.2.2.1 a0 35)) dX11_hypotheses_63 fl_11_224 ga17 gs18 rfl ?_
      refine a_putI dX11_hypotheses_66 (Or.inl ⟨fl_11_144, Or.inl rfl⟩) rfl ga17 gs18 rfl rfl ?_
      refine a_iconst (v := 0) dX11_hypotheses_69 (by decide) ?_
      refine a_istore_n dX11_hypotheses_70 rfl (Nat.le_of_ble_eq_true rfl) (lv2 := [(2, .int 0), (0, .ref a0)]) rfl ?_
      exact a_lv (lv2 := [(0, .ref a0), (2, .int 0)]) (fa_cons rfl (fa_cons rfl fa_nil)) (hJ _ _ _ h)
    · replace h := ite_f c16 h
      refine a_bipush (v := -30) dX11_hypotheses_53 (by decide) ?_
      refine a_aload_n dX11_hypotheses_55 rfl rfl ?_
      obtain ⟨⟨ga19, gs20⟩, h⟩ := gd_t h
      refine a_get (v := .int (M12.2.2.1 a0 30)) dX11_hypotheses_56 fl_11_163 ga19 gs20 rfl ?_
      refine a_isub dX11_hypotheses_59 ?_
      exact a_iret dX11_hypotheses_60 rfl (hR _ _ h)
  · replace h := ite_t c8 h
    refine a_aload_n dX11_hypotheses_39 rfl rfl ?_
    obtain ⟨⟨ga21, gs22⟩, h⟩ := gd_t h
    obtain ⟨_, M23, e24, h⟩ := bnd2_t h
    obtain ⟨n25, en26, e24⟩ := cal_t e24
    refine e_callV (As := []) (st := []) (a := a0) (ci := 11) false dX11_hypotheses_40 mw_X11_readHypothesis (Or.inl ⟨rfl, ml_X11_241⟩) im_X11_readHypothesis se_X11_readHypothesis (by decide) ga21 gs22 rfl (Nat.le_of_ble_eq_true rfl) en26 (s_X11_readHypothesis e24) ?_
    refine a_goto 32 dX11_hypotheses_43 (by decide) ?_
    exact a_lv (lv2 := [(0, .ref a0)]) (fa_cons rfl fa_nil) (hJ _ _ _ h)
set_option maxHeartbeats 4000000 in
set_option maxRecDepth 100000 in
noncomputable def T_X11_hypotheses_71.{u} {α : Sort u} (J : Nat → List Value → Mem → α) (R : Int32 → Mem → α) (N : α) (n : Nat) (a0 : Nat) (x2 : Int32) (M : Mem) : α := if 24 ≤ x2 then J 97 [.ref a0, .int 0] M else gd (fO M a0 11) N (bnd (M.2.2.2.2 a0 9) N (fun r4 => bnd (M.2.2.2.2 a0 12) N (fun r6 => gd (fA M r6 1 x2) N (gd (fA M r4 1 x2) N (J 71 [.ref a0, .int (x2 + 1)] (wI M r4 (x2.toNatClampNeg) (M.2.2.1 r6 (x2.toNatClampNeg))))))))
set_option maxHeartbeats 4000000 in
set_option maxRecDepth 100000 in
theorem n_X11_hypotheses_71.{u, v} {α : Sort u} {β : Sort v} (h : α → β) (J : Nat → List Value → Mem → α) (R : Int32 → Mem → α) (N : α) (n : Nat) (a0 : Nat) (x2 : Int32) (M : Mem) : h (T_X11_hypotheses_71 J R N n a0 x2 M) = T_X11_hypotheses_71 (fun c l M => h (J c l M)) (fun v M => h (R v M)) (h N) n a0 x2 M := by
  simp only [T_X11_hypotheses_71, nat_ite h, nat_gd h, nat_bnd h, nat_bnd2 h]
set_option maxHeartbeats 4000000 in
set_option maxRecDepth 100000 in
theorem w_X11_hypotheses_71 {X : Nat × (Nat → Int32)} {al : Bool} {n : Nat} {Q : Option Value → Mem → Prop} {J : Nat → List Value → Mem → Prop} (hJ : ∀ c l M, J c l M → PW_X11_hypotheses X al n Q c l M) {R : Int32 → Mem → Prop} (hR : ∀ v M, R v M → Q (some (.int v)) M) {a0 : Nat} {x2 : Int32} {M : Mem} (h : T_X11_hypotheses_71 J R False n a0 x2 M) : AW X (RX11, cX11_hypotheses, 3, (some .int), false, al, n) 0 0 71 [(0, .ref a0), (2, .int x2)] [] M Q := by
  unfold T_X11_hypotheses_71 at h
  refine a_iload_n dX11_hypotheses_71 rfl rfl ?_
  refine a_bipush (v := 24) dX11_hypotheses_72 (by decide) ?_
  refine a_icmp_ge 95 dX11_hypotheses_74 (by decide) (fun c1 => ?_) (fun c1 => ?_)
  · replace h := ite_t c1 h
    refine a_iconst (v := 0) dX11_hypotheses_95 (by decide) ?_
    refine a_istore_n dX11_hypotheses_96 rfl (Nat.le_of_ble_eq_true rfl) (lv2 := [(2, .int 0), (0, .ref a0)]) rfl ?_
    exact a_lv (lv2 := [(0, .ref a0), (2, .int 0)]) (fa_cons rfl (fa_cons rfl fa_nil)) (hJ _ _ _ h)
  · replace h := ite_f c1 h
    refine a_aload_n dX11_hypotheses_77 rfl rfl ?_
    obtain ⟨⟨ga2, gs3⟩, h⟩ := gd_t h
    obtain ⟨r4, e5, h⟩ := bnd_t h
    refine a_get (v := .ref r4) dX11_hypotheses_78 fl_11_32 ga2 gs3 (gvR e5 rfl) ?_
    refine a_iload_n dX11_hypotheses_81 rfl rfl ?_
    refine a_aload_n dX11_hypotheses_82 rfl rfl ?_
    obtain ⟨r6, e7, h⟩ := bnd_t h
    refine a_get (v := .ref r6) dX11_hypotheses_83 fl_11_41 ga2 gs3 (gvR e7 rfl) ?_
    refine a_iload_n dX11_hypotheses_86 rfl rfl ?_
    obtain ⟨⟨ga8, gn9, gs10, gi11⟩, h⟩ := gd_t h
    refine a_iaload dX11_hypotheses_87 ga8 gs10 gi11 ?_
    obtain ⟨⟨ga12, gn13, gs14, gi15⟩, h⟩ := gd_t h
    refine a_iastore dX11_hypotheses_88 ga12 gs14 gi15 ?_
    refine a_iinc (v := (x2 + 1)) dX11_hypotheses_89 rfl (by first | rfl | decide) (Nat.le_of_ble_eq_true rfl) (lv2 := [(2, .int (x2 + 1)), (0, .ref a0)]) rfl ?_
    refine a_goto 71 dX11_hypotheses_92 (by decide) ?_
    exact a_lv (lv2 := [(0, .ref a0), (2, .int (x2 + 1))]) (fa_cons rfl (fa_cons rfl fa_nil)) (hJ _ _ _ h)
set_option maxHeartbeats 4000000 in
set_option maxRecDepth 100000 in
noncomputable def T_X11_hypotheses_97.{u} {α : Sort u} (J : Nat → List Value → Mem → α) (R : Int32 → Mem → α) (N : α) (n : Nat) (a0 : Nat) (x2 : Int32) (M : Mem) : α := if 6 ≤ x2 then J 135 [.ref a0, .int 0] M else gd (fO M a0 11) N (bnd (M.2.2.2.2 a0 10) N (fun r4 => bnd (M.2.2.2.2 a0 13) N (fun r6 => gd (fA M r6 1 x2) N (gd (fA M r4 1 x2) N (bnd (M.2.2.2.2 a0 11) N (fun r16 => bnd (M.2.2.2.2 a0 14) N (fun r18 => gd (fA M r18 1 x2) N (gd (fA M r16 1 x2) N (J 97 [.ref a0, .int (x2 + 1)] (wI (wI M r4 (x2.toNatClampNeg) (M.2.2.1 r6 (x2.toNatClampNeg))) r16 (x2.toNatClampNeg) ((wI M r4 (x2.toNatClampNeg) (M.2.2.1 r6 (x2.toNatClampNeg))).2.2.1 r18 (x2.toNatClampNeg))))))))))))
set_option maxHeartbeats 4000000 in
set_option maxRecDepth 100000 in
theorem n_X11_hypotheses_97.{u, v} {α : Sort u} {β : Sort v} (h : α → β) (J : Nat → List Value → Mem → α) (R : Int32 → Mem → α) (N : α) (n : Nat) (a0 : Nat) (x2 : Int32) (M : Mem) : h (T_X11_hypotheses_97 J R N n a0 x2 M) = T_X11_hypotheses_97 (fun c l M => h (J c l M)) (fun v M => h (R v M)) (h N) n a0 x2 M := by
  simp only [T_X11_hypotheses_97, nat_ite h, nat_gd h, nat_bnd h, nat_bnd2 h]
set_option maxHeartbeats 4000000 in
set_option maxRecDepth 100000 in
theorem w_X11_hypotheses_97 {X : Nat × (Nat → Int32)} {al : Bool} {n : Nat} {Q : Option Value → Mem → Prop} {J : Nat → List Value → Mem → Prop} (hJ : ∀ c l M, J c l M → PW_X11_hypotheses X al n Q c l M) {R : Int32 → Mem → Prop} (hR : ∀ v M, R v M → Q (some (.int v)) M) {a0 : Nat} {x2 : Int32} {M : Mem} (h : T_X11_hypotheses_97 J R False n a0 x2 M) : AW X (RX11, cX11_hypotheses, 3, (some .int), false, al, n) 0 0 97 [(0, .ref a0), (2, .int x2)] [] M Q := by
  unfold T_X11_hypotheses_97 at h
  refine a_iload_n dX11_hypotheses_97 rfl rfl ?_
  refine a_bipush (v := 6) dX11_hypotheses_98 (by decide) ?_
  refine a_icmp_ge 133 dX11_hypotheses_100 (by decide) (fun c1 => ?_) (fun c1 => ?_)
  · replace h := ite_t c1 h
    refine a_iconst (v := 0) dX11_hypotheses_133 (by decide) ?_
    refine a_istore_n dX11_hypotheses_134 rfl (Nat.le_of_ble_eq_true rfl) (lv2 := [(2, .int 0), (0, .ref a0)]) rfl ?_
    exact a_lv (lv2 := [(0, .ref a0), (2, .int 0)]) (fa_cons rfl (fa_cons rfl fa_nil)) (hJ _ _ _ h)
  · replace h := ite_f c1 h
    refine a_aload_n dX11_hypotheses_103 rfl rfl ?_
    obtain ⟨⟨ga2, gs3⟩, h⟩ := gd_t h
    obtain ⟨r4, e5, h⟩ := bnd_t h
    refine a_get (v := .ref r4) dX11_hypotheses_104 fl_11_35 ga2 gs3 (gvR e5 rfl) ?_
    refine a_iload_n dX11_hypotheses_107 rfl rfl ?_
    refine a_aload_n dX11_hypotheses_108 rfl rfl ?_
    obtain ⟨r6, e7, h⟩ := bnd_t h
    refine a_get (v := .ref r6) dX11_hypotheses_109 fl_11_44 ga2 gs3 (gvR e7 rfl) ?_
    refine a_iload_n dX11_hypotheses_112 rfl rfl ?_
    obtain ⟨⟨ga8, gn9, gs10, gi11⟩, h⟩ := gd_t h
    refine a_iaload dX11_hypotheses_113 ga8 gs10 gi11 ?_
    obtain ⟨⟨ga12, gn13, gs14, gi15⟩, h⟩ := gd_t h
    refine a_iastore dX11_hypotheses_114 ga12 gs14 gi15 ?_
    refine a_aload_n dX11_hypotheses_115 rfl rfl ?_
    obtain ⟨r16, e17, h⟩ := bnd_t h
    refine a_get (v := .ref r16) dX11_hypotheses_116 fl_11_38 ga2 gs3 (gvR e17 rfl) ?_
    refine a_iload_n dX11_hypotheses_119 rfl rfl ?_
    refine a_aload_n dX11_hypotheses_120 rfl rfl ?_
    obtain ⟨r18, e19, h⟩ := bnd_t h
    refine a_get (v := .ref r18) dX11_hypotheses_121 fl_11_47 ga2 gs3 (gvR e19 rfl) ?_
    refine a_iload_n dX11_hypotheses_124 rfl rfl ?_
    obtain ⟨⟨ga20, gn21, gs22, gi23⟩, h⟩ := gd_t h
    refine a_iaload dX11_hypotheses_125 ga20 gs22 gi23 ?_
    obtain ⟨⟨ga24, gn25, gs26, gi27⟩, h⟩ := gd_t h
    refine a_iastore dX11_hypotheses_126 ga24 gs26 gi27 ?_
    refine a_iinc (v := (x2 + 1)) dX11_hypotheses_127 rfl (by first | rfl | decide) (Nat.le_of_ble_eq_true rfl) (lv2 := [(2, .int (x2 + 1)), (0, .ref a0)]) rfl ?_
    refine a_goto 97 dX11_hypotheses_130 (by decide) ?_
    exact a_lv (lv2 := [(0, .ref a0), (2, .int (x2 + 1))]) (fa_cons rfl (fa_cons rfl fa_nil)) (hJ _ _ _ h)
set_option maxHeartbeats 4000000 in
set_option maxRecDepth 100000 in
noncomputable def T_X11_hypotheses_135.{u} {α : Sort u} (J : Nat → List Value → Mem → α) (R : Int32 → Mem → α) (N : α) (n : Nat) (a0 : Nat) (x2 : Int32) (M : Mem) : α := if 4 ≤ x2 then gd (fO M a0 11) N (R (M.2.2.1 a0 15) M) else gd (fO M a0 11) N (bnd (M.2.2.2.2 a0 19) N (fun r6 => gd (fA M r6 1 x2) N (J 135 [.ref a0, .int (x2 + 1)] (wI M r6 (x2.toNatClampNeg) 0))))
set_option maxHeartbeats 4000000 in
set_option maxRecDepth 100000 in
theorem n_X11_hypotheses_135.{u, v} {α : Sort u} {β : Sort v} (h : α → β) (J : Nat → List Value → Mem → α) (R : Int32 → Mem → α) (N : α) (n : Nat) (a0 : Nat) (x2 : Int32) (M : Mem) : h (T_X11_hypotheses_135 J R N n a0 x2 M) = T_X11_hypotheses_135 (fun c l M => h (J c l M)) (fun v M => h (R v M)) (h N) n a0 x2 M := by
  simp only [T_X11_hypotheses_135, nat_ite h, nat_gd h, nat_bnd h, nat_bnd2 h]
set_option maxHeartbeats 4000000 in
set_option maxRecDepth 100000 in
theorem w_X11_hypotheses_135 {X : Nat × (Nat → Int32)} {al : Bool} {n : Nat} {Q : Option Value → Mem → Prop} {J : Nat → List Value → Mem → Prop} (hJ : ∀ c l M, J c l M → PW_X11_hypotheses X al n Q c l M) {R : Int32 → Mem → Prop} (hR : ∀ v M, R v M → Q (some (.int v)) M) {a0 : Nat} {x2 : Int32} {M : Mem} (h : T_X11_hypotheses_135 J R False n a0 x2 M) : AW X (RX11, cX11_hypotheses, 3, (some .int), false, al, n) 0 0 135 [(0, .ref a0), (2, .int x2)] [] M Q := by
  unfold T_X11_hypotheses_135 at h
  refine a_iload_n dX11_hypotheses_135 rfl rfl ?_
  refine a_iconst (v := 4) dX11_hypotheses_136 (by decide) ?_
  refine a_icmp_ge 153 dX11_hypotheses_137 (by decide) (fun c1 => ?_) (fun c1 => ?_)
  · replace h := ite_t c1 h
    refine a_aload_n dX11_hypotheses_153 rfl rfl ?_
    obtain ⟨⟨ga2, gs3⟩, h⟩ := gd_t h
    refine a_get (v := .int (M.2.2.1 a0 15)) dX11_hypotheses_154 fl_11_144 ga2 gs3 rfl ?_
    exact a_iret dX11_hypotheses_157 rfl (hR _ _ h)
  · replace h := ite_f c1 h
    refine a_aload_n dX11_hypotheses_140 rfl rfl ?_
    obtain ⟨⟨ga4, gs5⟩, h⟩ := gd_t h
    obtain ⟨r6, e7, h⟩ := bnd_t h
    refine a_get (v := .ref r6) dX11_hypotheses_141 fl_11_56 ga4 gs5 (gvR e7 rfl) ?_
    refine a_iload_n dX11_hypotheses_144 rfl rfl ?_
    refine a_iconst (v := 0) dX11_hypotheses_145 (by decide) ?_
    obtain ⟨⟨ga8, gn9, gs10, gi11⟩, h⟩ := gd_t h
    refine a_iastore dX11_hypotheses_146 ga8 gs10 gi11 ?_
    refine a_iinc (v := (x2 + 1)) dX11_hypotheses_147 rfl (by first | rfl | decide) (Nat.le_of_ble_eq_true rfl) (lv2 := [(2, .int (x2 + 1)), (0, .ref a0)]) rfl ?_
    refine a_goto 135 dX11_hypotheses_150 (by decide) ?_
    exact a_lv (lv2 := [(0, .ref a0), (2, .int (x2 + 1))]) (fa_cons rfl (fa_cons rfl fa_nil)) (hJ _ _ _ h)
set_option maxHeartbeats 4000000 in
set_option maxRecDepth 100000 in
noncomputable def st_X11_hypotheses (n : Nat) (s : Sg) : Option (Sg ⊕ (Int32 × Mem)) := if s.1 = 0 then vR s.2.1 none (fun a0 t => vI t none (fun x1 t => vE t none (T_X11_hypotheses_0 (fun c l M => some (.inl (c, l, M))) (fun v M => some (.inr (v, M))) none n a0 x1 s.2.2))) else if s.1 = 32 then vR s.2.1 none (fun a0 t => vE t none (T_X11_hypotheses_32 (fun c l M => some (.inl (c, l, M))) (fun v M => some (.inr (v, M))) none n a0 s.2.2)) else if s.1 = 71 then vR s.2.1 none (fun a0 t => vI t none (fun x2 t => vE t none (T_X11_hypotheses_71 (fun c l M => some (.inl (c, l, M))) (fun v M => some (.inr (v, M))) none n a0 x2 s.2.2))) else if s.1 = 97 then vR s.2.1 none (fun a0 t => vI t none (fun x2 t => vE t none (T_X11_hypotheses_97 (fun c l M => some (.inl (c, l, M))) (fun v M => some (.inr (v, M))) none n a0 x2 s.2.2))) else if s.1 = 135 then vR s.2.1 none (fun a0 t => vI t none (fun x2 t => vE t none (T_X11_hypotheses_135 (fun c l M => some (.inl (c, l, M))) (fun v M => some (.inr (v, M))) none n a0 x2 s.2.2))) else none
noncomputable abbrev g_X11_hypotheses_0 (n : Nat) (a0 : Nat) (x1 : Int32) (M : Mem) : Option (Int32 × Mem) := lp (st_X11_hypotheses n) (0, [.ref a0, .int x1], M)
set_option maxHeartbeats 4000000 in
set_option maxRecDepth 100000 in
theorem ge_X11_hypotheses_0 (n : Nat) (a0 : Nat) (x1 : Int32) (M : Mem) : g_X11_hypotheses_0 n a0 x1 M = T_X11_hypotheses_0 (fun c l M => lp (st_X11_hypotheses n) (c, l, M)) (fun v M => some (v, M)) none n a0 x1 M := (lp_eq _ _).trans (n_X11_hypotheses_0 (lpK (st_X11_hypotheses n)) (fun c l M => some (.inl (c, l, M))) (fun v M => some (.inr (v, M))) none n a0 x1 M)
noncomputable abbrev g_X11_hypotheses_32 (n : Nat) (a0 : Nat) (M : Mem) : Option (Int32 × Mem) := lp (st_X11_hypotheses n) (32, [.ref a0], M)
set_option maxHeartbeats 4000000 in
set_option maxRecDepth 100000 in
theorem ge_X11_hypotheses_32 (n : Nat) (a0 : Nat) (M : Mem) : g_X11_hypotheses_32 n a0 M = T_X11_hypotheses_32 (fun c l M => lp (st_X11_hypotheses n) (c, l, M)) (fun v M => some (v, M)) none n a0 M := (lp_eq _ _).trans (n_X11_hypotheses_32 (lpK (st_X11_hypotheses n)) (fun c l M => some (.inl (c, l, M))) (fun v M => some (.inr (v, M))) none n a0 M)
noncomputable abbrev g_X11_hypotheses_71 (n : Nat) (a0 : Nat) (x2 : Int32) (M : Mem) : Option (Int32 × Mem) := lp (st_X11_hypotheses n) (71, [.ref a0, .int x2], M)
set_option maxHeartbeats 4000000 in
set_option maxRecDepth 100000 in
theorem ge_X11_hypotheses_71 (n : Nat) (a0 : Nat) (x2 : Int32) (M : Mem) : g_X11_hypotheses_71 n a0 x2 M = T_X11_hypotheses_71 (fun c l M => lp (st_X11_hypotheses n) (c, l, M)) (fun v M => some (v, M)) none n a0 x2 M := (lp_eq _ _).trans (n_X11_hypotheses_71 (lpK (st_X11_hypotheses n)) (fun c l M => some (.inl (c, l, M))) (fun v M => some (.inr (v, M))) none n a0 x2 M)
noncomputable abbrev g_X11_hypotheses_97 (n : Nat) (a0 : Nat) (x2 : Int32) (M : Mem) : Option (Int32 × Mem) := lp (st_X11_hypotheses n) (97, [.ref a0, .int x2], M)
set_option maxHeartbeats 4000000 in
set_option maxRecDepth 100000 in
theorem ge_X11_hypotheses_97 (n : Nat) (a0 : Nat) (x2 : Int32) (M : Mem) : g_X11_hypotheses_97 n a0 x2 M = T_X11_hypotheses_97 (fun c l M => lp (st_X11_hypotheses n) (c, l, M)) (fun v M => some (v, M)) none n a0 x2 M := (lp_eq _ _).trans (n_X11_hypotheses_97 (lpK (st_X11_hypotheses n)) (fun c l M => some (.inl (c, l, M))) (fun v M => some (.inr (v, M))) none n a0 x2 M)
noncomputable abbrev g_X11_hypotheses_135 (n : Nat) (a0 : Nat) (x2 : Int32) (M : Mem) : Option (Int32 × Mem) := lp (st_X11_hypotheses n) (135, [.ref a0, .int x2], M)
set_option maxHeartbeats 4000000 in
set_option maxRecDepth 100000 in
theorem ge_X11_hypotheses_135 (n : Nat) (a0 : Nat) (x2 : Int32) (M : Mem) : g_X11_hypotheses_135 n a0 x2 M = T_X11_hypotheses_135 (fun c l M => lp (st_X11_hypotheses n) (c, l, M)) (fun v M => some (v, M)) none n a0 x2 M := (lp_eq _ _).trans (n_X11_hypotheses_135 (lpK (st_X11_hypotheses n)) (fun c l M => some (.inl (c, l, M))) (fun v M => some (.inr (v, M))) none n a0 x2 M)
noncomputable def b_X11_hypotheses (n : Nat) (a0 : Nat) (x1 : Int32) (M : Mem) : Option (Int32 × Mem) := g_X11_hypotheses_0 n a0 x1 M
set_option maxHeartbeats 4000000 in
set_option maxRecDepth 100000 in
theorem sb_X11_hypotheses {X : Nat × (Nat → Int32)} {al : Bool} {n : Nat} {a0 : Nat} {x1 : Int32} {M : Mem} {v : Int32} {M1 : Mem} (h : b_X11_hypotheses n a0 x1 M = some (v, M1)) : AE yX11_hypotheses cX11_hypotheses 3 (some .int) al n X [.ref a0, .int x1] M (some (.int v)) M1 := by
  refine AM.of false (by decide +kernel) (by intro h; cases h) (Nat.le_of_ble_eq_true rfl) ?_
  refine lp_snd (P := fun s r => PW_X11_hypotheses X al n (fun v M2 => v = (some (.int r.1)) ∧ M2 = r.2) s.1 s.2.1 s.2.2) ?_ h
  clear h
  rintro ⟨c, l, M⟩ r h
  unfold st_X11_hypotheses at h
  rcases ite_p h with ⟨e, h⟩ | ⟨e, h⟩
  · replace e : c = 0 := e
    subst e
    obtain ⟨a0, tt0, e, h⟩ := vR_p id h
    replace e : l = _ := e
    subst e
    obtain ⟨x1, tt1, e, h⟩ := vI_p id h
    replace e : tt0 = _ := e
    subst e
    obtain ⟨e, h⟩ := vE_p id h
    replace e : tt1 = [] := e
    subst e
    exact w_X11_hypotheses_0 (J := fun c l M => PW_X11_hypotheses X al n (fun v M2 => v = (some (.int r.1)) ∧ M2 = r.2) c l M) (R := fun v M => (v, M) = r) (fun _ _ _ h => h) (fun v M h => by cases h; exact ⟨rfl, rfl⟩) ((n_X11_hypotheses_0 (lpP (fun (s : Sg) (r : Int32 × Mem) => PW_X11_hypotheses X al n (fun v M2 => v = (some (.int r.1)) ∧ M2 = r.2) s.1 s.2.1 s.2.2) r) (fun c l M => some (.inl (c, l, M))) (fun v M => some (.inr (v, M))) none n a0 x1 M).mp h)
  rcases ite_p h with ⟨e, h⟩ | ⟨e, h⟩
  · replace e : c = 32 := e
    subst e
    obtain ⟨a0, tt0, e, h⟩ := vR_p id h
    replace e : l = _ := e
    subst e
    obtain ⟨e, h⟩ := vE_p id h
    replace e : tt0 = [] := e
    subst e
    exact w_X11_hypotheses_32 (J := fun c l M => PW_X11_hypotheses X al n (fun v M2 => v = (some (.int r.1)) ∧ M2 = r.2) c l M) (R := fun v M => (v, M) = r) (fun _ _ _ h => h) (fun v M h => by cases h; exact ⟨rfl, rfl⟩) ((n_X11_hypotheses_32 (lpP (fun (s : Sg) (r : Int32 × Mem) => PW_X11_hypotheses X al n (fun v M2 => v = (some (.int r.1)) ∧ M2 = r.2) s.1 s.2.1 s.2.2) r) (fun c l M => some (.inl (c, l, M))) (fun v M => some (.inr (v, M))) none n a0 M).mp h)
  rcases ite_p h with ⟨e, h⟩ | ⟨e, h⟩
  · replace e : c = 71 := e
    subst e
    obtain ⟨a0, tt0, e, h⟩ := vR_p id h
    replace e : l = _ := e
    subst e
    obtain ⟨x2, tt1, e, h⟩ := vI_p id h
    replace e : tt0 = _ := e
    subst e
    obtain ⟨e, h⟩ := vE_p id h
    replace e : tt1 = [] := e
    subst e
    exact w_X11_hypotheses_71 (J := fun c l M => PW_X11_hypotheses X al n (fun v M2 => v = (some (.int r.1)) ∧ M2 = r.2) c l M) (R := fun v M => (v, M) = r) (fun _ _ _ h => h) (fun v M h => by cases h; exact ⟨rfl, rfl⟩) ((n_X11_hypotheses_71 (lpP (fun (s : Sg) (r : Int32 × Mem) => PW_X11_hypotheses X al n (fun v M2 => v = (some (.int r.1)) ∧ M2 = r.2) s.1 s.2.1 s.2.2) r) (fun c l M => some (.inl (c, l, M))) (fun v M => some (.inr (v, M))) none n a0 x2 M).mp h)
  rcases ite_p h with ⟨e, h⟩ | ⟨e, h⟩
  · replace e : c = 97 := e
    subst e
    obtain ⟨a0, tt0, e, h⟩ := vR_p id h
    replace e : l = _ := e
    subst e
    obtain ⟨x2, tt1, e, h⟩ := vI_p id h
    replace e : tt0 = _ := e
    subst e
    obtain ⟨e, h⟩ := vE_p id h
    replace e : tt1 = [] := e
    subst e
    exact w_X11_hypotheses_97 (J := fun c l M => PW_X11_hypotheses X al n (fun v M2 => v = (some (.int r.1)) ∧ M2 = r.2) c l M) (R := fun v M => (v, M) = r) (fun _ _ _ h => h) (fun v M h => by cases h; exact ⟨rfl, rfl⟩) ((n_X11_hypotheses_97 (lpP (fun (s : Sg) (r : Int32 × Mem) => PW_X11_hypotheses X al n (fun v M2 => v = (some (.int r.1)) ∧ M2 = r.2) s.1 s.2.1 s.2.2) r) (fun c l M => some (.inl (c, l, M))) (fun v M => some (.inr (v, M))) none n a0 x2 M).mp h)
  rcases ite_p h with ⟨e, h⟩ | ⟨e, h⟩
  · replace e : c = 135 := e
    subst e
    obtain ⟨a0, tt0, e, h⟩ := vR_p id h
    replace e : l = _ := e
    subst e
    obtain ⟨x2, tt1, e, h⟩ := vI_p id h
    replace e : tt0 = _ := e
    subst e
    obtain ⟨e, h⟩ := vE_p id h
    replace e : tt1 = [] := e
    subst e
    exact w_X11_hypotheses_135 (J := fun c l M => PW_X11_hypotheses X al n (fun v M2 => v = (some (.int r.1)) ∧ M2 = r.2) c l M) (R := fun v M => (v, M) = r) (fun _ _ _ h => h) (fun v M h => by cases h; exact ⟨rfl, rfl⟩) ((n_X11_hypotheses_135 (lpP (fun (s : Sg) (r : Int32 × Mem) => PW_X11_hypotheses X al n (fun v M2 => v = (some (.int r.1)) ∧ M2 = r.2) s.1 s.2.1 s.2.2) r) (fun c l M => some (.inl (c, l, M))) (fun v M => some (.inr (v, M))) none n a0 x2 M).mp h)
  · exact h.elim

noncomputable abbrev f_X11_hypotheses := b_X11_hypotheses
theorem s_X11_hypotheses {X : Nat × (Nat → Int32)} {al : Bool} {n : Nat} {a0 : Nat} {x1 : Int32} {M : Mem} {v : Int32} {M1 : Mem} (h : f_X11_hypotheses n a0 x1 M = some (v, M1)) : AE yX11_hypotheses cX11_hypotheses 3 (some .int) al n X [.ref a0, .int x1] M (some (.int v)) M1 := sb_X11_hypotheses h
set_option maxHeartbeats 4000000 in
set_option maxRecDepth 100000 in
noncomputable def T_X6_readEnd_0.{u} {α : Sort u} (R : Int32 → Mem → α) (N : α) (n : Nat) (a0 : Nat) (M : Mem) : α := gd (fO M a0 6) N (bnd2 (cal n (fun n => f_X6_advance n a0 M)) N (fun _ M3 => gd (fO M3 a0 6) N (if (M3.2.2.1 a0 13) = (-3) then R 1 M3 else bnd2 (cal n (fun n => f_X6_fail n a0 1 (M3.2.2.1 a0 12) M3)) N (fun v10 M11 => if v10 = 0 then R 0 M11 else R 1 M11))))
set_option maxHeartbeats 4000000 in
set_option maxRecDepth 100000 in
theorem n_X6_readEnd_0.{u, v} {α : Sort u} {β : Sort v} (h : α → β) (R : Int32 → Mem → α) (N : α) (n : Nat) (a0 : Nat) (M : Mem) : h (T_X6_readEnd_0 R N n a0 M) = T_X6_readEnd_0 (fun v M => h (R v M)) (h N) n a0 M := by
  simp only [T_X6_readEnd_0, nat_ite h, nat_gd h, nat_bnd h, nat_bnd2 h]
set_option maxHeartbeats 4000000 in
set_option maxRecDepth 100000 in
theorem w_X6_readEnd_0 {X : Nat × (Nat → Int32)} {al : Bool} {n : Nat} {Q : Option Value → Mem → Prop} {R : Int32 → Mem → Prop} (hR : ∀ v M, R v M → Q (some (.int v)) M) {a0 : Nat} {M : Mem} (h : T_X6_readEnd_0 R False n a0 M) : AW X (RX6, cX6_readEnd, 1, (some .boolean), false, al, n) 0 0 0 [(0, .ref a0)] [] M Q := by
  unfold T_X6_readEnd_0 at h
  refine a_aload_n dX6_readEnd_0 rfl rfl ?_
  obtain ⟨⟨ga1, gs2⟩, h⟩ := gd_t h
  obtain ⟨_, M3, e4, h⟩ := bnd2_t h
  obtain ⟨n5, en6, e4⟩ := cal_t e4
  refine e_callV (As := []) (st := []) (a := a0) (ci := 6) false dX6_readEnd_1 mw_X6_advance (Or.inl ⟨rfl, ml_X6_97⟩) im_X6_advance se_X6_advance (by decide) ga1 gs2 rfl (Nat.le_of_ble_eq_true rfl) en6 (s_X6_advance e4) ?_
  refine a_aload_n dX6_readEnd_4 rfl rfl ?_
  obtain ⟨⟨ga7, gs8⟩, h⟩ := gd_t h
  refine a_get (v := .int (M3.2.2.1 a0 13)) dX6_readEnd_5 fl_6_75 ga7 gs8 rfl ?_
  refine a_bipush (v := -3) dX6_readEnd_8 (by decide) ?_
  refine a_icmp_eq 25 dX6_readEnd_10 (by decide) (fun c9 => ?_) (fun c9 => ?_)
  · replace h := ite_t c9 h
    refine a_iconst (v := 1) dX6_readEnd_25 (by decide) ?_
    refine a_goto 30 dX6_readEnd_26 (by decide) ?_
    exact a_zret dX6_readEnd_30 rfl rfl (hR _ _ h)
  · replace h := ite_f c9 h
    refine a_aload_n dX6_readEnd_13 rfl rfl ?_
    refine a_iconst (v := 1) dX6_readEnd_14 (by decide) ?_
    refine a_aload_n dX6_readEnd_15 rfl rfl ?_
    refine a_get (v := .int (M3.2.2.1 a0 12)) dX6_readEnd_16 fl_6_68 ga7 gs8 rfl ?_
    obtain ⟨v10, M11, e12, h⟩ := bnd2_t h
    obtain ⟨n13, en14, e12⟩ := cal_t e12
    refine e_callV (As := [.int 1, .int (M3.2.2.1 a0 12)]) (st := []) (a := a0) (ci := 6) false dX6_readEnd_19 mw_X6_fail (Or.inl ⟨rfl, ml_X6_107⟩) im_X6_fail se_X6_fail (by decide) ga7 gs8 rfl (Nat.le_of_ble_eq_true rfl) en14 (s_X6_fail e12) ?_
    refine a_if_eq 29 dX6_readEnd_22 (by decide) (fun c15 => ?_) (fun c15 => ?_)
    · replace h := ite_t c15 h
      refine a_iconst (v := 0) dX6_readEnd_29 (by decide) ?_
      exact a_zret dX6_readEnd_30 rfl rfl (hR _ _ h)
    · replace h := ite_f c15 h
      refine a_iconst (v := 1) dX6_readEnd_25 (by decide) ?_
      refine a_goto 30 dX6_readEnd_26 (by decide) ?_
      exact a_zret dX6_readEnd_30 rfl rfl (hR _ _ h)
noncomputable def b_X6_readEnd (n : Nat) (a0 : Nat) (M : Mem) : Option (Int32 × Mem) := T_X6_readEnd_0 (fun v M => some (v, M)) none n a0 M
set_option maxHeartbeats 4000000 in
set_option maxRecDepth 100000 in
theorem sb_X6_readEnd {X : Nat × (Nat → Int32)} {al : Bool} {n : Nat} {a0 : Nat} {M : Mem} {v : Int32} {M1 : Mem} (h : b_X6_readEnd n a0 M = some (v, M1)) : AE yX6_readEnd cX6_readEnd 1 (some .boolean) al n X [.ref a0] M (some (.int v)) M1 := by
  refine AM.of false (by decide +kernel) (by intro h; cases h) (Nat.le_of_ble_eq_true rfl) ?_
  have h2 : T_X6_readEnd_0 (fun v2 M2 => some (v2, M2) = some (v, M1)) (none = some (v, M1)) n a0 M := (n_X6_readEnd_0 (fun o => o = some (v, M1)) (fun v M => some (v, M)) none n a0 M).mp h
  have h3 : ((none : Option (Int32 × Mem)) = some (v, M1)) = False := eq_false (by intro q; cases q)
  rw [h3] at h2
  exact w_X6_readEnd_0 (fun v2 M2 h => by cases h; exact ⟨rfl, rfl⟩) h2

noncomputable abbrev f_X6_readEnd := b_X6_readEnd
theorem s_X6_readEnd {X : Nat × (Nat → Int32)} {al : Bool} {n : Nat} {a0 : Nat} {M : Mem} {v : Int32} {M1 : Mem} (h : f_X6_readEnd n a0 M = some (v, M1)) : AE yX6_readEnd cX6_readEnd 1 (some .boolean) al n X [.ref a0] M (some (.int v)) M1 := sb_X6_readEnd h
set_option maxHeartbeats 4000000 in
set_option maxRecDepth 100000 in
noncomputable def T_X6_readGoal_0.{u} {α : Sort u} (R : Int32 → Mem → α) (N : α) (n : Nat) (a0 : Nat) (x1 : Int32) (M : Mem) : α := gd (fO M a0 6) N (bnd2 (cal n (fun n => f_X6_begin n a0 x1 M)) N (fun _ M3 => gd (fO M3 a0 6) N (bnd2 (cal n (fun n => f_X6_readFormula n a0 M3)) N (fun v9 M10 => if v9 = (-1) then R (-1) M10 else gd (fO M10 a0 6) N (bnd2 (cal n (fun n => f_X6_readEnd n a0 M10)) N (fun v17 M18 => if v17 = 0 then R (-1) M18 else R v9 M18))))))
set_option maxHeartbeats 4000000 in
set_option maxRecDepth 100000 in
theorem n_X6_readGoal_0.{u, v} {α : Sort u} {β : Sort v} (h : α → β) (R : Int32 → Mem → α) (N : α) (n : Nat) (a0 : Nat) (x1 : Int32) (M : Mem) : h (T_X6_readGoal_0 R N n a0 x1 M) = T_X6_readGoal_0 (fun v M => h (R v M)) (h N) n a0 x1 M := by
  simp only [T_X6_readGoal_0, nat_ite h, nat_gd h, nat_bnd h, nat_bnd2 h]
set_option maxHeartbeats 4000000 in
set_option maxRecDepth 100000 in
theorem w_X6_readGoal_0 {X : Nat × (Nat → Int32)} {al : Bool} {n : Nat} {Q : Option Value → Mem → Prop} {R : Int32 → Mem → Prop} (hR : ∀ v M, R v M → Q (some (.int v)) M) {a0 : Nat} {x1 : Int32} {M : Mem} (h : T_X6_readGoal_0 R False n a0 x1 M) : AW X (RX6, cX6_readGoal, 3, (some .int), false, al, n) 0 0 0 [(0, .ref a0), (1, .int x1)] [] M Q := by
  unfold T_X6_readGoal_0 at h
  refine a_aload_n dX6_readGoal_0 rfl rfl ?_
  refine a_iload_n dX6_readGoal_1 rfl rfl ?_
  obtain ⟨⟨ga1, gs2⟩, h⟩ := gd_t h
  obtain ⟨_, M3, e4, h⟩ := bnd2_t h
  obtain ⟨n5, en6, e4⟩ := cal_t e4
  refine e_callV (As := [.int x1]) (st := []) (a := a0) (ci := 6) false dX6_readGoal_2 mw_X6_begin (Or.inl ⟨rfl, ml_X6_90⟩) im_X6_begin se_X6_begin (by decide) ga1 gs2 rfl (Nat.le_of_ble_eq_true rfl) en6 (s_X6_begin e4) ?_
  refine a_aload_n dX6_readGoal_5 rfl rfl ?_
  obtain ⟨⟨ga7, gs8⟩, h⟩ := gd_t h
  obtain ⟨v9, M10, e11, h⟩ := bnd2_t h
  obtain ⟨n12, en13, e11⟩ := cal_t e11
  refine e_callV (As := []) (st := []) (a := a0) (ci := 6) false dX6_readGoal_6 mw_X6_readFormula (Or.inl ⟨rfl, ml_X6_123⟩) im_X6_readFormula se_X6_readFormula (by decide) ga7 gs8 rfl (Nat.le_of_ble_eq_true rfl) en13 (s_X6_readFormula e11) ?_
  refine a_istore_n dX6_readGoal_9 rfl (Nat.le_of_ble_eq_true rfl) (lv2 := [(2, .int v9), (0, .ref a0), (1, .int x1)]) rfl ?_
  refine a_iload_n dX6_readGoal_10 rfl rfl ?_
  refine a_iconst (v := -1) dX6_readGoal_11 (by decide) ?_
  refine a_icmp_eq 26 dX6_readGoal_12 (by decide) (fun c14 => ?_) (fun c14 => ?_)
  · replace h := ite_t c14 h
    refine a_iconst (v := -1) dX6_readGoal_26 (by decide) ?_
    exact a_iret dX6_readGoal_27 rfl (hR _ _ h)
  · replace h := ite_f c14 h
    refine a_aload_n dX6_readGoal_15 rfl rfl ?_
    obtain ⟨⟨ga15, gs16⟩, h⟩ := gd_t h
    obtain ⟨v17, M18, e19, h⟩ := bnd2_t h
    obtain ⟨n20, en21, e19⟩ := cal_t e19
    refine e_callV (As := []) (st := []) (a := a0) (ci := 6) false dX6_readGoal_16 mw_X6_readEnd (Or.inl ⟨rfl, ml_X6_135⟩) im_X6_readEnd se_X6_readEnd (by decide) ga15 gs16 rfl (Nat.le_of_ble_eq_true rfl) en21 (s_X6_readEnd e19) ?_
    refine a_if_eq 26 dX6_readGoal_19 (by decide) (fun c22 => ?_) (fun c22 => ?_)
    · replace h := ite_t c22 h
      refine a_iconst (v := -1) dX6_readGoal_26 (by decide) ?_
      exact a_iret dX6_readGoal_27 rfl (hR _ _ h)
    · replace h := ite_f c22 h
      refine a_iload_n dX6_readGoal_22 rfl rfl ?_
      refine a_goto 27 dX6_readGoal_23 (by decide) ?_
      exact a_iret dX6_readGoal_27 rfl (hR _ _ h)
noncomputable def b_X6_readGoal (n : Nat) (a0 : Nat) (x1 : Int32) (M : Mem) : Option (Int32 × Mem) := T_X6_readGoal_0 (fun v M => some (v, M)) none n a0 x1 M
set_option maxHeartbeats 4000000 in
set_option maxRecDepth 100000 in
theorem sb_X6_readGoal {X : Nat × (Nat → Int32)} {al : Bool} {n : Nat} {a0 : Nat} {x1 : Int32} {M : Mem} {v : Int32} {M1 : Mem} (h : b_X6_readGoal n a0 x1 M = some (v, M1)) : AE yX6_readGoal cX6_readGoal 3 (some .int) al n X [.ref a0, .int x1] M (some (.int v)) M1 := by
  refine AM.of false (by decide +kernel) (by intro h; cases h) (Nat.le_of_ble_eq_true rfl) ?_
  have h2 : T_X6_readGoal_0 (fun v2 M2 => some (v2, M2) = some (v, M1)) (none = some (v, M1)) n a0 x1 M := (n_X6_readGoal_0 (fun o => o = some (v, M1)) (fun v M => some (v, M)) none n a0 x1 M).mp h
  have h3 : ((none : Option (Int32 × Mem)) = some (v, M1)) = False := eq_false (by intro q; cases q)
  rw [h3] at h2
  exact w_X6_readGoal_0 (fun v2 M2 h => by cases h; exact ⟨rfl, rfl⟩) h2

noncomputable abbrev f_X6_readGoal := b_X6_readGoal
theorem s_X6_readGoal {X : Nat × (Nat → Int32)} {al : Bool} {n : Nat} {a0 : Nat} {x1 : Int32} {M : Mem} {v : Int32} {M1 : Mem} (h : f_X6_readGoal n a0 x1 M = some (v, M1)) : AE yX6_readGoal cX6_readGoal 3 (some .int) al n X [.ref a0, .int x1] M (some (.int v)) M1 := sb_X6_readGoal h
set_option maxHeartbeats 4000000 in
set_option maxRecDepth 100000 in
noncomputable def T_X10_goal_0.{u} {α : Sort u} (R : Int32 → Mem → α) (N : α) (n : Nat) (a0 : Nat) (x1 : Int32) (M : Mem) : α := gd (fO M a0 10) N (bnd2 (cal n (fun n => f_X10_tapeLacks n a0 x1 M)) N (fun v3 M4 => if v3 = 0 then gd (fO M4 a0 10) N (bnd (M4.2.2.2.2 a0 4) N (fun r11 => gd (fO M4 r11 6) N (bnd2 (cal n (fun n => f_X6_readGoal n r11 x1 (wI M4 a0 1 0))) N (fun v15 M16 => if v15 = (-1) then gd (fO M16 a0 10) N (bnd (M16.2.2.2.2 a0 4) N (fun r29 => gd (fO M16 r29 6) N (R ((-30) - (M16.2.2.1 r29 17)) M16))) else gd (fO M16 a0 10) N (bnd (M16.2.2.2.2 a0 4) N (fun r23 => gd (fO M16 r23 6) N (R ((wI (wI M16 a0 16 v15) a0 17 ((wI M16 a0 16 v15).2.2.1 r23 16)).2.2.1 r23 15) (wI (wI M16 a0 16 v15) a0 17 ((wI M16 a0 16 v15).2.2.1 r23 16))))))))) else R (-3) M4))
set_option maxHeartbeats 4000000 in
set_option maxRecDepth 100000 in
theorem n_X10_goal_0.{u, v} {α : Sort u} {β : Sort v} (h : α → β) (R : Int32 → Mem → α) (N : α) (n : Nat) (a0 : Nat) (x1 : Int32) (M : Mem) : h (T_X10_goal_0 R N n a0 x1 M) = T_X10_goal_0 (fun v M => h (R v M)) (h N) n a0 x1 M := by
  simp only [T_X10_goal_0, nat_ite h, nat_gd h, nat_bnd h, nat_bnd2 h]
set_option maxHeartbeats 4000000 in
set_option maxRecDepth 100000 in
theorem w_X10_goal_0 {X : Nat × (Nat → Int32)} {al : Bool} {n : Nat} {Q : Option Value → Mem → Prop} {R : Int32 → Mem → Prop} (hR : ∀ v M, R v M → Q (some (.int v)) M) {a0 : Nat} {x1 : Int32} {M : Mem} (h : T_X10_goal_0 R False n a0 x1 M) : AW X (RX10, cX10_goal, 3, (some .int), false, al, n) 0 0 0 [(0, .ref a0), (1, .int x1)] [] M Q := by
  unfold T_X10_goal_0 at h
  refine a_aload_n dX10_goal_0 rfl rfl ?_
  refine a_iload_n dX10_goal_1 rfl rfl ?_
  obtain ⟨⟨ga1, gs2⟩, h⟩ := gd_t h
  obtain ⟨v3, M4, e5, h⟩ := bnd2_t h
  obtain ⟨n6, en7, e5⟩ := cal_t e5
  refine e_callV (As := [.int x1]) (st := []) (a := a0) (ci := 10) false dX10_goal_2 mw_X10_tapeLacks (Or.inl ⟨rfl, ml_X10_119⟩) im_X10_tapeLacks se_X10_tapeLacks (by decide) ga1 gs2 rfl (Nat.le_of_ble_eq_true rfl) en7 (s_X10_tapeLacks e5) ?_
  refine a_if_eq 11 dX10_goal_5 (by decide) (fun c8 => ?_) (fun c8 => ?_)
  · replace h := ite_t c8 h
    refine a_aload_n dX10_goal_11 rfl rfl ?_
    refine a_iconst (v := 0) dX10_goal_12 (by decide) ?_
    obtain ⟨⟨ga9, gs10⟩, h⟩ := gd_t h
    refine a_putI dX10_goal_13 (Or.inl ⟨fl_10_112, Or.inl rfl⟩) rfl ga9 gs10 rfl rfl ?_
    refine a_aload_n dX10_goal_16 rfl rfl ?_
    obtain ⟨r11, e12, h⟩ := bnd_t h
    refine a_get (v := .ref r11) dX10_goal_17 fl_10_32 ga9 gs10 (gvR e12 rfl) ?_
    refine a_iload_n dX10_goal_20 rfl rfl ?_
    obtain ⟨⟨ga13, gs14⟩, h⟩ := gd_t h
    obtain ⟨v15, M16, e17, h⟩ := bnd2_t h
    obtain ⟨n18, en19, e17⟩ := cal_t e17
    refine e_callV (As := [.int x1]) (st := []) (a := r11) (ci := 6) false dX10_goal_21 mw_X6_readGoal (Or.inl ⟨rfl, ml_X10_141⟩) im_X6_readGoal se_X6_readGoal (by decide) ga13 gs14 rfl (Nat.le_of_ble_eq_true rfl) en19 (s_X6_readGoal e17) ?_
    refine a_istore_n dX10_goal_24 rfl (Nat.le_of_ble_eq_true rfl) (lv2 := [(2, .int v15), (0, .ref a0), (1, .int x1)]) rfl ?_
    refine a_iload_n dX10_goal_25 rfl rfl ?_
    refine a_iconst (v := -1) dX10_goal_26 (by decide) ?_
    refine a_icmp_ne 41 dX10_goal_27 (by decide) (fun c20 => ?_) (fun c20 => ?_)
    · replace h := ite_f c20 h
      refine a_aload_n dX10_goal_41 rfl rfl ?_
      refine a_iload_n dX10_goal_42 rfl rfl ?_
      obtain ⟨⟨ga21, gs22⟩, h⟩ := gd_t h
      refine a_putI dX10_goal_43 (Or.inl ⟨fl_10_105, Or.inl rfl⟩) rfl ga21 gs22 rfl rfl ?_
      refine a_aload_n dX10_goal_46 rfl rfl ?_
      refine a_aload_n dX10_goal_47 rfl rfl ?_
      obtain ⟨r23, e24, h⟩ := bnd_t h
      refine a_get (v := .ref r23) dX10_goal_48 fl_10_32 ga21 gs22 (gvR e24 rfl) ?_
      obtain ⟨⟨ga25, gs26⟩, h⟩ := gd_t h
      refine a_getN (v := .int ((wI M16 a0 16 v15).2.2.1 r23 16)) dX10_goal_51 fn_10_145 ga25 gs26 rfl ?_
      refine a_putI dX10_goal_54 (Or.inl ⟨fl_10_109, Or.inl rfl⟩) rfl ga21 gs22 rfl rfl ?_
      refine a_aload_n dX10_goal_57 rfl rfl ?_
      refine a_get (v := .ref r23) dX10_goal_58 fl_10_32 ga21 gs22 (gvR e24 rfl) ?_
      refine a_getN (v := .int ((wI (wI M16 a0 16 v15) a0 17 ((wI M16 a0 16 v15).2.2.1 r23 16)).2.2.1 r23 15)) dX10_goal_61 fn_10_148 ga25 gs26 rfl ?_
      exact a_iret dX10_goal_64 rfl (hR _ _ h)
    · replace h := ite_t c20 h
      refine a_bipush (v := -30) dX10_goal_30 (by decide) ?_
      refine a_aload_n dX10_goal_32 rfl rfl ?_
      obtain ⟨⟨ga27, gs28⟩, h⟩ := gd_t h
      obtain ⟨r29, e30, h⟩ := bnd_t h
      refine a_get (v := .ref r29) dX10_goal_33 fl_10_32 ga27 gs28 (gvR e30 rfl) ?_
      obtain ⟨⟨ga31, gs32⟩, h⟩ := gd_t h
      refine a_getN (v := .int (M16.2.2.1 r29 17)) dX10_goal_36 fn_10_126 ga31 gs32 rfl ?_
      refine a_isub dX10_goal_39 ?_
      exact a_iret dX10_goal_40 rfl (hR _ _ h)
  · replace h := ite_f c8 h
    refine a_bipush (v := -3) dX10_goal_8 (by decide) ?_
    exact a_iret dX10_goal_10 rfl (hR _ _ h)
noncomputable def b_X10_goal (n : Nat) (a0 : Nat) (x1 : Int32) (M : Mem) : Option (Int32 × Mem) := T_X10_goal_0 (fun v M => some (v, M)) none n a0 x1 M
set_option maxHeartbeats 4000000 in
set_option maxRecDepth 100000 in
theorem sb_X10_goal {X : Nat × (Nat → Int32)} {al : Bool} {n : Nat} {a0 : Nat} {x1 : Int32} {M : Mem} {v : Int32} {M1 : Mem} (h : b_X10_goal n a0 x1 M = some (v, M1)) : AE yX10_goal cX10_goal 3 (some .int) al n X [.ref a0, .int x1] M (some (.int v)) M1 := by
  refine AM.of false (by decide +kernel) (by intro h; cases h) (Nat.le_of_ble_eq_true rfl) ?_
  have h2 : T_X10_goal_0 (fun v2 M2 => some (v2, M2) = some (v, M1)) (none = some (v, M1)) n a0 x1 M := (n_X10_goal_0 (fun o => o = some (v, M1)) (fun v M => some (v, M)) none n a0 x1 M).mp h
  have h3 : ((none : Option (Int32 × Mem)) = some (v, M1)) = False := eq_false (by intro q; cases q)
  rw [h3] at h2
  exact w_X10_goal_0 (fun v2 M2 h => by cases h; exact ⟨rfl, rfl⟩) h2

noncomputable abbrev f_X10_goal := b_X10_goal
theorem s_X10_goal {X : Nat × (Nat → Int32)} {al : Bool} {n : Nat} {a0 : Nat} {x1 : Int32} {M : Mem} {v : Int32} {M1 : Mem} (h : f_X10_goal n a0 x1 M = some (v, M1)) : AE yX10_goal cX10_goal 3 (some .int) al n X [.ref a0, .int x1] M (some (.int v)) M1 := sb_X10_goal h
def ix_X11_goal (c : Nat) : List Nat := if c = 0 then [0, 1] else if c = 55 then [0, 2] else []
def PW_X11_goal (X : Nat × (Nat → Int32)) (al : Bool) (n : Nat) (Q : Option Value → Mem → Prop) (c : Nat) (l : List Value) (M : Mem) : Prop := AW X (RX11, cX11_goal, 3, (some .int), false, al, n) 0 0 c (List.zip (ix_X11_goal c) l) (l.drop (ix_X11_goal c).length) M Q
set_option maxHeartbeats 4000000 in
set_option maxRecDepth 100000 in
noncomputable def T_X11_goal_0.{u} {α : Sort u} (J : Nat → List Value → Mem → α) (R : Int32 → Mem → α) (N : α) (n : Nat) (a0 : Nat) (x1 : Int32) (M : Mem) : α := gd (fO M a0 11) N (bnd2 (cal n (fun n => f_X11_isIn n (Int32.toInt64 x1) 0 (Int32.toInt64 ((wI M a0 0 0).2.2.1 a0 27)) (wI M a0 0 0))) N (fun v3 M4 => if v3 = 0 then R (-3) M4 else gd (fO M4 a0 11) N (bnd2 (cal n (fun n => f_X11_begins n a0 x1 M4)) N (fun _ M11 => gd (fO M11 a0 11) N (bnd2 (cal n (fun n => f_X11_formulaRead n a0 M11)) N (fun v17 M18 => gd (fO M18 a0 11) N (if (M18.2.2.1 a0 30) = 0 then bnd2 (cal n (fun n => f_X11_isOver n a0 M18)) N (fun v25 M26 => if v25 = 0 then gd (fO M26 a0 11) N (bnd2 (cal n (fun n => f_X11_fails n a0 1 (M26.2.2.1 a0 29) M26)) N (fun _ M33 => J 55 [.ref a0, .int v17] M33)) else J 55 [.ref a0, .int v17] M26) else J 55 [.ref a0, .int v17] M18)))))))
set_option maxHeartbeats 4000000 in
set_option maxRecDepth 100000 in
theorem n_X11_goal_0.{u, v} {α : Sort u} {β : Sort v} (h : α → β) (J : Nat → List Value → Mem → α) (R : Int32 → Mem → α) (N : α) (n : Nat) (a0 : Nat) (x1 : Int32) (M : Mem) : h (T_X11_goal_0 J R N n a0 x1 M) = T_X11_goal_0 (fun c l M => h (J c l M)) (fun v M => h (R v M)) (h N) n a0 x1 M := by
  simp only [T_X11_goal_0, nat_ite h, nat_gd h, nat_bnd h, nat_bnd2 h]
set_option maxHeartbeats 4000000 in
set_option maxRecDepth 100000 in
theorem w_X11_goal_0 {X : Nat × (Nat → Int32)} {al : Bool} {n : Nat} {Q : Option Value → Mem → Prop} {J : Nat → List Value → Mem → Prop} (hJ : ∀ c l M, J c l M → PW_X11_goal X al n Q c l M) {R : Int32 → Mem → Prop} (hR : ∀ v M, R v M → Q (some (.int v)) M) {a0 : Nat} {x1 : Int32} {M : Mem} (h : T_X11_goal_0 J R False n a0 x1 M) : AW X (RX11, cX11_goal, 3, (some .int), false, al, n) 0 0 0 [(0, .ref a0), (1, .int x1)] [] M Q := by
  unfold T_X11_goal_0 at h
  refine a_aload_n dX11_goal_0 rfl rfl ?_
  refine a_iconst (v := 0) dX11_goal_1 (by decide) ?_
  obtain ⟨⟨ga1, gs2⟩, h⟩ := gd_t h
  refine a_putI dX11_goal_2 (Or.inl ⟨fl_11_1, Or.inl rfl⟩) rfl ga1 gs2 rfl rfl ?_
  refine a_iload_n dX11_goal_5 rfl rfl ?_
  refine a_i2l dX11_goal_6 ?_
  refine a_lconst (v := 0) dX11_goal_7 (by decide) ?_
  refine a_aload_n dX11_goal_8 rfl rfl ?_
  refine a_get (v := .int ((wI M a0 0 0).2.2.1 a0 27)) dX11_goal_9 fl_11_154 ga1 gs2 rfl ?_
  refine a_i2l dX11_goal_12 ?_
  obtain ⟨v3, M4, e5, h⟩ := bnd2_t h
  obtain ⟨n6, en7, e5⟩ := cal_t e5
  refine e_callS (As := [.long (Int32.toInt64 x1), .long 0, .long (Int32.toInt64 ((wI M a0 0 0).2.2.1 a0 27))]) (st := []) false dX11_goal_13 mw_X11_isIn (Or.inl ⟨rfl, ml_X11_180⟩) sm_X11_isIn rfl (Nat.le_of_ble_eq_true rfl) en7 (s_X11_isIn e5) ?_
  refine a_if_ne 22 dX11_goal_16 (by decide) (fun c8 => ?_) (fun c8 => ?_)
  · replace h := ite_f c8 h
    refine a_aload_n dX11_goal_22 rfl rfl ?_
    refine a_iload_n dX11_goal_23 rfl rfl ?_
    obtain ⟨⟨ga9, gs10⟩, h⟩ := gd_t h
    obtain ⟨_, M11, e12, h⟩ := bnd2_t h
    obtain ⟨n13, en14, e12⟩ := cal_t e12
    refine e_callV (As := [.int x1]) (st := []) (a := a0) (ci := 11) false dX11_goal_24 mw_X11_begins (Or.inl ⟨rfl, ml_X11_234⟩) im_X11_begins se_X11_begins (by decide) ga9 gs10 rfl (Nat.le_of_ble_eq_true rfl) en14 (s_X11_begins e12) ?_
    refine a_aload_n dX11_goal_27 rfl rfl ?_
    obtain ⟨⟨ga15, gs16⟩, h⟩ := gd_t h
    obtain ⟨v17, M18, e19, h⟩ := bnd2_t h
    obtain ⟨n20, en21, e19⟩ := cal_t e19
    refine e_callV (As := []) (st := []) (a := a0) (ci := 11) false dX11_goal_28 mw_X11_formulaRead (Or.inl ⟨rfl, ml_X11_231⟩) im_X11_formulaRead se_X11_formulaRead (by decide) ga15 gs16 rfl (Nat.le_of_ble_eq_true rfl) en21 (s_X11_formulaRead e19) ?_
    refine a_istore_n dX11_goal_31 rfl (Nat.le_of_ble_eq_true rfl) (lv2 := [(2, .int v17), (0, .ref a0), (1, .int x1)]) rfl ?_
    refine a_aload_n dX11_goal_32 rfl rfl ?_
    obtain ⟨⟨ga22, gs23⟩, h⟩ := gd_t h
    refine a_get (v := .int (M18.2.2.1 a0 30)) dX11_goal_33 fl_11_163 ga22 gs23 rfl ?_
    refine a_if_ne 55 dX11_goal_36 (by decide) (fun c24 => ?_) (fun c24 => ?_)
    · replace h := ite_f c24 h
      exact a_lv (lv2 := [(0, .ref a0), (2, .int v17)]) (fa_cons rfl (fa_cons rfl fa_nil)) (hJ _ _ _ h)
    · replace h := ite_t c24 h
      refine a_aload_n dX11_goal_39 rfl rfl ?_
      obtain ⟨v25, M26, e27, h⟩ := bnd2_t h
      obtain ⟨n28, en29, e27⟩ := cal_t e27
      refine e_callV (As := []) (st := []) (a := a0) (ci := 11) false dX11_goal_40 mw_X11_isOver (Or.inl ⟨rfl, ml_X11_237⟩) im_X11_isOver se_X11_isOver (by decide) ga22 gs23 rfl (Nat.le_of_ble_eq_true rfl) en29 (s_X11_isOver e27) ?_
      refine a_if_ne 55 dX11_goal_43 (by decide) (fun c30 => ?_) (fun c30 => ?_)
      · replace h := ite_f c30 h
        exact a_lv (lv2 := [(0, .ref a0), (2, .int v17)]) (fa_cons rfl (fa_cons rfl fa_nil)) (hJ _ _ _ h)
      · replace h := ite_t c30 h
        refine a_aload_n dX11_goal_46 rfl rfl ?_
        refine a_iconst (v := 1) dX11_goal_47 (by decide) ?_
        refine a_aload_n dX11_goal_48 rfl rfl ?_
        obtain ⟨⟨ga31, gs32⟩, h⟩ := gd_t h
        refine a_get (v := .int (M26.2.2.1 a0 29)) dX11_goal_49 fl_11_157 ga31 gs32 rfl ?_
        obtain ⟨_, M33, e34, h⟩ := bnd2_t h
        obtain ⟨n35, en36, e34⟩ := cal_t e34
        refine e_callV (As := [.int 1, .int (M26.2.2.1 a0 29)]) (st := []) (a := a0) (ci := 11) false dX11_goal_52 mw_X11_fails (Or.inl ⟨rfl, ml_X11_209⟩) im_X11_fails se_X11_fails (by decide) ga31 gs32 rfl (Nat.le_of_ble_eq_true rfl) en36 (s_X11_fails e34) ?_
        exact a_lv (lv2 := [(0, .ref a0), (2, .int v17)]) (fa_cons rfl (fa_cons rfl fa_nil)) (hJ _ _ _ h)
  · replace h := ite_t c8 h
    refine a_bipush (v := -3) dX11_goal_19 (by decide) ?_
    exact a_iret dX11_goal_21 rfl (hR _ _ h)
set_option maxHeartbeats 4000000 in
set_option maxRecDepth 100000 in
noncomputable def T_X11_goal_55.{u} {α : Sort u} (J : Nat → List Value → Mem → α) (R : Int32 → Mem → α) (N : α) (n : Nat) (a0 : Nat) (x2 : Int32) (M : Mem) : α := gd (fO M a0 11) N (bnd2 (cal n (fun n => f_X11_settles n a0 M)) N (fun v3 M4 => if v3 = 0 then gd (fO M4 a0 11) N (R ((wI M4 a0 16 x2).2.2.1 a0 34) (wI M4 a0 16 x2)) else gd (fO M4 a0 11) N (R ((-30) - (M4.2.2.1 a0 30)) M4)))
set_option maxHeartbeats 4000000 in
set_option maxRecDepth 100000 in
theorem n_X11_goal_55.{u, v} {α : Sort u} {β : Sort v} (h : α → β) (J : Nat → List Value → Mem → α) (R : Int32 → Mem → α) (N : α) (n : Nat) (a0 : Nat) (x2 : Int32) (M : Mem) : h (T_X11_goal_55 J R N n a0 x2 M) = T_X11_goal_55 (fun c l M => h (J c l M)) (fun v M => h (R v M)) (h N) n a0 x2 M := by
  simp only [T_X11_goal_55, nat_ite h, nat_gd h, nat_bnd h, nat_bnd2 h]
set_option maxHeartbeats 4000000 in
set_option maxRecDepth 100000 in
theorem w_X11_goal_55 {X : Nat × (Nat → Int32)} {al : Bool} {n : Nat} {Q : Option Value → Mem → Prop} {J : Nat → List Value → Mem → Prop} (hJ : ∀ c l M, J c l M → PW_X11_goal X al n Q c l M) {R : Int32 → Mem → Prop} (hR : ∀ v M, R v M → Q (some (.int v)) M) {a0 : Nat} {x2 : Int32} {M : Mem} (h : T_X11_goal_55 J R False n a0 x2 M) : AW X (RX11, cX11_goal, 3, (some .int), false, al, n) 0 0 55 [(0, .ref a0), (2, .int x2)] [] M Q := by
  unfold T_X11_goal_55 at h
  refine a_aload_n dX11_goal_55 rfl rfl ?_
  obtain ⟨⟨ga1, gs2⟩, h⟩ := gd_t h
  obtain ⟨v3, M4, e5, h⟩ := bnd2_t h
  obtain ⟨n6, en7, e5⟩ := cal_t e5
  refine e_callV (As := []) (st := []) (a := a0) (ci := 11) false dX11_goal_56 mw_X11_settles (Or.inl ⟨rfl, ml_X11_244⟩) im_X11_settles se_X11_settles (by decide) ga1 gs2 rfl (Nat.le_of_ble_eq_true rfl) en7 (s_X11_settles e5) ?_
  refine a_if_eq 70 dX11_goal_59 (by decide) (fun c8 => ?_) (fun c8 => ?_)
  · replace h := ite_t c8 h
    refine a_aload_n dX11_goal_70 rfl rfl ?_
    refine a_iload_n dX11_goal_71 rfl rfl ?_
    obtain ⟨⟨ga9, gs10⟩, h⟩ := gd_t h
    refine a_putI dX11_goal_72 (Or.inl ⟨fl_11_134, Or.inl rfl⟩) rfl ga9 gs10 rfl rfl ?_
    refine a_aload_n dX11_goal_75 rfl rfl ?_
    refine a_get (v := .int ((wI M4 a0 16 x2).2.2.1 a0 34)) dX11_goal_76 fl_11_213 ga9 gs10 rfl ?_
    exact a_iret dX11_goal_79 rfl (hR _ _ h)
  · replace h := ite_f c8 h
    refine a_bipush (v := -30) dX11_goal_62 (by decide) ?_
    refine a_aload_n dX11_goal_64 rfl rfl ?_
    obtain ⟨⟨ga11, gs12⟩, h⟩ := gd_t h
    refine a_get (v := .int (M4.2.2.1 a0 30)) dX11_goal_65 fl_11_163 ga11 gs12 rfl ?_
    refine a_isub dX11_goal_68 ?_
    exact a_iret dX11_goal_69 rfl (hR _ _ h)
set_option maxHeartbeats 4000000 in
set_option maxRecDepth 100000 in
noncomputable def st_X11_goal (n : Nat) (s : Sg) : Option (Sg ⊕ (Int32 × Mem)) := if s.1 = 0 then vR s.2.1 none (fun a0 t => vI t none (fun x1 t => vE t none (T_X11_goal_0 (fun c l M => some (.inl (c, l, M))) (fun v M => some (.inr (v, M))) none n a0 x1 s.2.2))) else if s.1 = 55 then vR s.2.1 none (fun a0 t => vI t none (fun x2 t => vE t none (T_X11_goal_55 (fun c l M => some (.inl (c, l, M))) (fun v M => some (.inr (v, M))) none n a0 x2 s.2.2))) else none
noncomputable abbrev g_X11_goal_0 (n : Nat) (a0 : Nat) (x1 : Int32) (M : Mem) : Option (Int32 × Mem) := lp (st_X11_goal n) (0, [.ref a0, .int x1], M)
set_option maxHeartbeats 4000000 in
set_option maxRecDepth 100000 in
theorem ge_X11_goal_0 (n : Nat) (a0 : Nat) (x1 : Int32) (M : Mem) : g_X11_goal_0 n a0 x1 M = T_X11_goal_0 (fun c l M => lp (st_X11_goal n) (c, l, M)) (fun v M => some (v, M)) none n a0 x1 M := (lp_eq _ _).trans (n_X11_goal_0 (lpK (st_X11_goal n)) (fun c l M => some (.inl (c, l, M))) (fun v M => some (.inr (v, M))) none n a0 x1 M)
noncomputable abbrev g_X11_goal_55 (n : Nat) (a0 : Nat) (x2 : Int32) (M : Mem) : Option (Int32 × Mem) := lp (st_X11_goal n) (55, [.ref a0, .int x2], M)
set_option maxHeartbeats 4000000 in
set_option maxRecDepth 100000 in
theorem ge_X11_goal_55 (n : Nat) (a0 : Nat) (x2 : Int32) (M : Mem) : g_X11_goal_55 n a0 x2 M = T_X11_goal_55 (fun c l M => lp (st_X11_goal n) (c, l, M)) (fun v M => some (v, M)) none n a0 x2 M := (lp_eq _ _).trans (n_X11_goal_55 (lpK (st_X11_goal n)) (fun c l M => some (.inl (c, l, M))) (fun v M => some (.inr (v, M))) none n a0 x2 M)
noncomputable def b_X11_goal (n : Nat) (a0 : Nat) (x1 : Int32) (M : Mem) : Option (Int32 × Mem) := g_X11_goal_0 n a0 x1 M
set_option maxHeartbeats 4000000 in
set_option maxRecDepth 100000 in
theorem sb_X11_goal {X : Nat × (Nat → Int32)} {al : Bool} {n : Nat} {a0 : Nat} {x1 : Int32} {M : Mem} {v : Int32} {M1 : Mem} (h : b_X11_goal n a0 x1 M = some (v, M1)) : AE yX11_goal cX11_goal 3 (some .int) al n X [.ref a0, .int x1] M (some (.int v)) M1 := by
  refine AM.of false (by decide +kernel) (by intro h; cases h) (Nat.le_of_ble_eq_true rfl) ?_
  refine lp_snd (P := fun s r => PW_X11_goal X al n (fun v M2 => v = (some (.int r.1)) ∧ M2 = r.2) s.1 s.2.1 s.2.2) ?_ h
  clear h
  rintro ⟨c, l, M⟩ r h
  unfold st_X11_goal at h
  rcases ite_p h with ⟨e, h⟩ | ⟨e, h⟩
  · replace e : c = 0 := e
    subst e
    obtain ⟨a0, tt0, e, h⟩ := vR_p id h
    replace e : l = _ := e
    subst e
    obtain ⟨x1, tt1, e, h⟩ := vI_p id h
    replace e : tt0 = _ := e
    subst e
    obtain ⟨e, h⟩ := vE_p id h
    replace e : tt1 = [] := e
    subst e
    exact w_X11_goal_0 (J := fun c l M => PW_X11_goal X al n (fun v M2 => v = (some (.int r.1)) ∧ M2 = r.2) c l M) (R := fun v M => (v, M) = r) (fun _ _ _ h => h) (fun v M h => by cases h; exact ⟨rfl, rfl⟩) ((n_X11_goal_0 (lpP (fun (s : Sg) (r : Int32 × Mem) => PW_X11_goal X al n (fun v M2 => v = (some (.int r.1)) ∧ M2 = r.2) s.1 s.2.1 s.2.2) r) (fun c l M => some (.inl (c, l, M))) (fun v M => some (.inr (v, M))) none n a0 x1 M).mp h)
  rcases ite_p h with ⟨e, h⟩ | ⟨e, h⟩
  · replace e : c = 55 := e
    subst e
    obtain ⟨a0, tt0, e, h⟩ := vR_p id h
    replace e : l = _ := e
    subst e
    obtain ⟨x2, tt1, e, h⟩ := vI_p id h
    replace e : tt0 = _ := e
    subst e
    obtain ⟨e, h⟩ := vE_p id h
    replace e : tt1 = [] := e
    subst e
    exact w_X11_goal_55 (J := fun c l M => PW_X11_goal X al n (fun v M2 => v = (some (.int r.1)) ∧ M2 = r.2) c l M) (R := fun v M => (v, M) = r) (fun _ _ _ h => h) (fun v M h => by cases h; exact ⟨rfl, rfl⟩) ((n_X11_goal_55 (lpP (fun (s : Sg) (r : Int32 × Mem) => PW_X11_goal X al n (fun v M2 => v = (some (.int r.1)) ∧ M2 = r.2) s.1 s.2.1 s.2.2) r) (fun c l M => some (.inl (c, l, M))) (fun v M => some (.inr (v, M))) none n a0 x2 M).mp h)
  · exact h.elim

noncomputable abbrev f_X11_goal := b_X11_goal
theorem s_X11_goal {X : Nat × (Nat → Int32)} {al : Bool} {n : Nat} {a0 : Nat} {x1 : Int32} {M : Mem} {v : Int32} {M1 : Mem} (h : f_X11_goal n a0 x1 M = some (v, M1)) : AE yX11_goal cX11_goal 3 (some .int) al n X [.ref a0, .int x1] M (some (.int v)) M1 := sb_X11_goal h
set_option maxHeartbeats 4000000 in
set_option maxRecDepth 100000 in
noncomputable def T_X10_noSlot_0.{u} {α : Sort u} (R : Int32 → Mem → α) (N : α) (n : Nat) (x0 : Int32) (M : Mem) : α := if x0 < 0 then R 1 M else if x0 < 4 then R 0 M else R 1 M
set_option maxHeartbeats 4000000 in
set_option maxRecDepth 100000 in
theorem n_X10_noSlot_0.{u, v} {α : Sort u} {β : Sort v} (h : α → β) (R : Int32 → Mem → α) (N : α) (n : Nat) (x0 : Int32) (M : Mem) : h (T_X10_noSlot_0 R N n x0 M) = T_X10_noSlot_0 (fun v M => h (R v M)) (h N) n x0 M := by
  simp only [T_X10_noSlot_0, nat_ite h, nat_gd h, nat_bnd h, nat_bnd2 h]
set_option maxHeartbeats 4000000 in
set_option maxRecDepth 100000 in
theorem w_X10_noSlot_0 {X : Nat × (Nat → Int32)} {al : Bool} {n : Nat} {Q : Option Value → Mem → Prop} {R : Int32 → Mem → Prop} (hR : ∀ v M, R v M → Q (some (.int v)) M) {x0 : Int32} {M : Mem} (h : T_X10_noSlot_0 R False n x0 M) : AW X (RX10, cX10_noSlot, 1, (some .boolean), false, al, n) 0 0 0 [(0, .int x0)] [] M Q := by
  unfold T_X10_noSlot_0 at h
  refine a_iload_n dX10_noSlot_0 rfl rfl ?_
  refine a_if_lt 9 dX10_noSlot_1 (by decide) (fun c1 => ?_) (fun c1 => ?_)
  · replace h := ite_t c1 h
    refine a_iconst (v := 1) dX10_noSlot_9 (by decide) ?_
    refine a_goto 14 dX10_noSlot_10 (by decide) ?_
    exact a_zret dX10_noSlot_14 rfl rfl (hR _ _ h)
  · replace h := ite_f c1 h
    refine a_iload_n dX10_noSlot_4 rfl rfl ?_
    refine a_iconst (v := 4) dX10_noSlot_5 (by decide) ?_
    refine a_icmp_lt 13 dX10_noSlot_6 (by decide) (fun c2 => ?_) (fun c2 => ?_)
    · replace h := ite_t c2 h
      refine a_iconst (v := 0) dX10_noSlot_13 (by decide) ?_
      exact a_zret dX10_noSlot_14 rfl rfl (hR _ _ h)
    · replace h := ite_f c2 h
      refine a_iconst (v := 1) dX10_noSlot_9 (by decide) ?_
      refine a_goto 14 dX10_noSlot_10 (by decide) ?_
      exact a_zret dX10_noSlot_14 rfl rfl (hR _ _ h)
noncomputable def b_X10_noSlot (n : Nat) (x0 : Int32) (M : Mem) : Option (Int32 × Mem) := T_X10_noSlot_0 (fun v M => some (v, M)) none n x0 M
set_option maxHeartbeats 4000000 in
set_option maxRecDepth 100000 in
theorem sb_X10_noSlot {X : Nat × (Nat → Int32)} {al : Bool} {n : Nat} {x0 : Int32} {M : Mem} {v : Int32} {M1 : Mem} (h : b_X10_noSlot n x0 M = some (v, M1)) : AE yX10_noSlot cX10_noSlot 1 (some .boolean) al n X [.int x0] M (some (.int v)) M1 := by
  refine AM.of false (by decide +kernel) (by intro h; cases h) (Nat.le_of_ble_eq_true rfl) ?_
  have h2 : T_X10_noSlot_0 (fun v2 M2 => some (v2, M2) = some (v, M1)) (none = some (v, M1)) n x0 M := (n_X10_noSlot_0 (fun o => o = some (v, M1)) (fun v M => some (v, M)) none n x0 M).mp h
  have h3 : ((none : Option (Int32 × Mem)) = some (v, M1)) = False := eq_false (by intro q; cases q)
  rw [h3] at h2
  exact w_X10_noSlot_0 (fun v2 M2 h => by cases h; exact ⟨rfl, rfl⟩) h2

noncomputable abbrev f_X10_noSlot := b_X10_noSlot
theorem s_X10_noSlot {X : Nat × (Nat → Int32)} {al : Bool} {n : Nat} {x0 : Int32} {M : Mem} {v : Int32} {M1 : Mem} (h : f_X10_noSlot n x0 M = some (v, M1)) : AE yX10_noSlot cX10_noSlot 1 (some .boolean) al n X [.int x0] M (some (.int v)) M1 := sb_X10_noSlot h
