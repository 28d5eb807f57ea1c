/-! METHODS AS FUNCTIONS, written by wip/gen/shallow.py -/
set_option maxHeartbeats 4000000 in
set_option maxRecDepth 100000 in
noncomputable def T_X11_step_0.{u} {α : Sort u} (R : Int32 → Mem → α) (N : α) (n : Nat) (a0 : Nat) (x1 : Int32) (M : Mem) : α := gd (fO M a0 11) N (bnd2 (cal n (fun n => f_X11_isSlot n x1 (wI M a0 0 0))) N (fun v3 M4 => if v3 = 0 then R (-2) M4 else gd (fO M4 a0 11) N (bnd2 (cal n (fun n => f_X11_isEmpty n a0 x1 M4)) N (fun v11 M12 => if v11 = 0 then gd (fO M12 a0 11) N (bnd2 (cal n (fun n => f_X11_takes n a0 x1 M12)) N (fun _ M19 => gd (fO M19 a0 11) N (bnd2 (cal n (fun n => f_X11_steps n a0 M19)) N (fun v25 M26 => if v25 ≤ 0 then R v25 M26 else gd (fO M26 a0 11) N (bnd2 (cal n (fun n => f_X11_stores n a0 x1 M26)) N (fun _ M33 => R v25 M33)))))) else R (-5) M12))))
set_option maxHeartbeats 4000000 in
set_option maxRecDepth 100000 in
theorem n_X11_step_0.{u, v} {α : Sort u} {β : Sort v} (h : α → β) (R : Int32 → Mem → α) (N : α) (n : Nat) (a0 : Nat) (x1 : Int32) (M : Mem) : h (T_X11_step_0 R N n a0 x1 M) = T_X11_step_0 (fun v M => h (R v M)) (h N) n a0 x1 M := by
  simp only [T_X11_step_0, nat_ite h, nat_gd h, nat_bnd h, nat_bnd2 h]
set_option maxHeartbeats 4000000 in
set_option maxRecDepth 100000 in
theorem w_X11_step_0 {X : Nat × (Nat → Int32)} {al : Bool} {n : Nat} {Q : Option Value → Mem → Prop} {R : Int32 → Mem → Prop} (hR : ∀ v M, R v M → Q (some (.int v)) M) {a0 : Nat} {x1 : Int32} {M : Mem} (h : T_X11_step_0 R False n a0 x1 M) : AW X (RX11, cX11_step, 3, (some .int), false, al, n) 0 0 0 [(0, .ref a0), (1, .int x1)] [] M Q := by
  unfold T_X11_step_0 at h
  refine a_aload_n dX11_step_0 rfl rfl ?_
  refine a_iconst (v := 0) dX11_step_1 (by decide) ?_
  obtain ⟨⟨ga1, gs2⟩, h⟩ := gd_t h
  refine a_putI dX11_step_2 (Or.inl ⟨fl_11_1, Or.inl rfl⟩) rfl ga1 gs2 rfl rfl ?_
  refine a_iload_n dX11_step_5 rfl rfl ?_
  obtain ⟨v3, M4, e5, h⟩ := bnd2_t h
  obtain ⟨n6, en7, e5⟩ := cal_t e5
  refine e_callS (As := [.int x1]) (st := []) false dX11_step_6 mw_X11_isSlot (Or.inl ⟨rfl, ml_X11_271⟩) sm_X11_isSlot rfl (Nat.le_of_ble_eq_true rfl) en7 (s_X11_isSlot e5) ?_
  refine a_if_ne 15 dX11_step_9 (by decide) (fun c8 => ?_) (fun c8 => ?_)
  · replace h := ite_f c8 h
    refine a_aload_n dX11_step_15 rfl rfl ?_
    refine a_iload_n dX11_step_16 rfl rfl ?_
    obtain ⟨⟨ga9, gs10⟩, h⟩ := gd_t h
    obtain ⟨v11, M12, e13, h⟩ := bnd2_t h
    obtain ⟨n14, en15, e13⟩ := cal_t e13
    refine e_callV (As := [.int x1]) (st := []) (a := a0) (ci := 11) false dX11_step_17 mw_X11_isEmpty (Or.inl ⟨rfl, ml_X11_343⟩) im_X11_isEmpty se_X11_isEmpty (by decide) ga9 gs10 rfl (Nat.le_of_ble_eq_true rfl) en15 (s_X11_isEmpty e13) ?_
    refine a_if_eq 26 dX11_step_20 (by decide) (fun c16 => ?_) (fun c16 => ?_)
    · replace h := ite_t c16 h
      refine a_aload_n dX11_step_26 rfl rfl ?_
      refine a_iload_n dX11_step_27 rfl rfl ?_
      obtain ⟨⟨ga17, gs18⟩, h⟩ := gd_t h
      obtain ⟨_, M19, e20, h⟩ := bnd2_t h
      obtain ⟨n21, en22, e20⟩ := cal_t e20
      refine e_callV (As := [.int x1]) (st := []) (a := a0) (ci := 11) false dX11_step_28 mw_X11_takes (Or.inl ⟨rfl, ml_X11_346⟩) im_X11_takes se_X11_takes (by decide) ga17 gs18 rfl (Nat.le_of_ble_eq_true rfl) en22 (s_X11_takes e20) ?_
      refine a_aload_n dX11_step_31 rfl rfl ?_
      obtain ⟨⟨ga23, gs24⟩, h⟩ := gd_t h
      obtain ⟨v25, M26, e27, h⟩ := bnd2_t h
      obtain ⟨n28, en29, e27⟩ := cal_t e27
      refine e_callV (As := []) (st := []) (a := a0) (ci := 11) false dX11_step_32 mw_X11_steps (Or.inl ⟨rfl, ml_X11_349⟩) im_X11_steps se_X11_steps (by decide) ga23 gs24 rfl (Nat.le_of_ble_eq_true rfl) en29 (s_X11_steps e27) ?_
      refine a_istore_n dX11_step_35 rfl (Nat.le_of_ble_eq_true rfl) (lv2 := [(2, .int v25), (0, .ref a0), (1, .int x1)]) rfl ?_
      refine a_iload_n dX11_step_36 rfl rfl ?_
      refine a_if_le 45 dX11_step_37 (by decide) (fun c30 => ?_) (fun c30 => ?_)
      · replace h := ite_t c30 h
        refine a_iload_n dX11_step_45 rfl rfl ?_
        exact a_iret dX11_step_46 rfl (hR _ _ h)
      · replace h := ite_f c30 h
        refine a_aload_n dX11_step_40 rfl rfl ?_
        refine a_iload_n dX11_step_41 rfl rfl ?_
        obtain ⟨⟨ga31, gs32⟩, h⟩ := gd_t h
        obtain ⟨_, M33, e34, h⟩ := bnd2_t h
        obtain ⟨n35, en36, e34⟩ := cal_t e34
        refine e_callV (As := [.int x1]) (st := []) (a := a0) (ci := 11) false dX11_step_42 mw_X11_stores (Or.inl ⟨rfl, ml_X11_278⟩) im_X11_stores se_X11_stores (by decide) ga31 gs32 rfl (Nat.le_of_ble_eq_true rfl) en36 (s_X11_stores e34) ?_
        refine a_iload_n dX11_step_45 rfl rfl ?_
        exact a_iret dX11_step_46 rfl (hR _ _ h)
    · replace h := ite_f c16 h
      refine a_bipush (v := -5) dX11_step_23 (by decide) ?_
      exact a_iret dX11_step_25 rfl (hR _ _ h)
  · replace h := ite_t c8 h
    refine a_bipush (v := -2) dX11_step_12 (by decide) ?_
    exact a_iret dX11_step_14 rfl (hR _ _ h)
noncomputable def b_X11_step (n : Nat) (a0 : Nat) (x1 : Int32) (M : Mem) : Option (Int32 × Mem) := T_X11_step_0 (fun v M => some (v, M)) none n a0 x1 M
set_option maxHeartbeats 4000000 in
set_option maxRecDepth 100000 in
theorem sb_X11_step {X : Nat × (Nat → Int32)} {al : Bool} {n : Nat} {a0 : Nat} {x1 : Int32} {M : Mem} {v : Int32} {M1 : Mem} (h : b_X11_step n a0 x1 M = some (v, M1)) : AE yX11_step cX11_step 3 (some .int) al n X [.ref a0, .int x1] M (some (.int v)) M1 := by
  refine AM.of false (by decide +kernel) (by intro h; cases h) (Nat.le_of_ble_eq_true rfl) ?_
  have h2 : T_X11_step_0 (fun v2 M2 => some (v2, M2) = some (v, M1)) (none = some (v, M1)) n a0 x1 M := (n_X11_step_0 (fun o => o = some (v, M1)) (fun v M => some (v, M)) none n a0 x1 M).mp h
  have h3 : ((none : Option (Int32 × Mem)) = some (v, M1)) = False := eq_false (by intro q; cases q)
  rw [h3] at h2
  exact w_X11_step_0 (fun v2 M2 h => by cases h; exact ⟨rfl, rfl⟩) h2

noncomputable abbrev f_X11_step := b_X11_step
theorem s_X11_step {X : Nat × (Nat → Int32)} {al : Bool} {n : Nat} {a0 : Nat} {x1 : Int32} {M : Mem} {v : Int32} {M1 : Mem} (h : f_X11_step n a0 x1 M = some (v, M1)) : AE yX11_step cX11_step 3 (some .int) al n X [.ref a0, .int x1] M (some (.int v)) M1 := sb_X11_step h
def ix_X7_reduceAll (c : Nat) : List Nat := if c = 0 then [0, 1, 2] else if c = 10 then [0, 2, 3] else []
def PW_X7_reduceAll (X : Nat × (Nat → Int32)) (al : Bool) (n : Nat) (Q : Option Value → Mem → Prop) (c : Nat) (l : List Value) (M : Mem) : Prop := AW X (RX7, cX7_reduceAll, 6, (some .int), false, al, n) 0 0 c (List.zip (ix_X7_reduceAll c) l) (l.drop (ix_X7_reduceAll c).length) M Q
set_option maxHeartbeats 4000000 in
set_option maxRecDepth 100000 in
noncomputable def T_X7_reduceAll_0.{u} {α : Sort u} (J : Nat → List Value → Mem → α) (R : Int32 → Mem → α) (N : α) (n : Nat) (a0 : Nat) (a1 : Nat) (a2 : Nat) (M : Mem) : α := gd (fO M a0 7) N (bnd (M.2.2.2.2 a0 3) N (fun r3 => gd (fO M r3 9) N (bnd2 (cal n (fun n => f_X9_takeOver n r3 a1 M)) N (fun _ M7 => J 10 [.ref a0, .ref a2, .int 0] M7))))
set_option maxHeartbeats 4000000 in
set_option maxRecDepth 100000 in
theorem n_X7_reduceAll_0.{u, v} {α : Sort u} {β : Sort v} (h : α → β) (J : Nat → List Value → Mem → α) (R : Int32 → Mem → α) (N : α) (n : Nat) (a0 : Nat) (a1 : Nat) (a2 : Nat) (M : Mem) : h (T_X7_reduceAll_0 J R N n a0 a1 a2 M) = T_X7_reduceAll_0 (fun c l M => h (J c l M)) (fun v M => h (R v M)) (h N) n a0 a1 a2 M := by
  simp only [T_X7_reduceAll_0, nat_ite h, nat_gd h, nat_bnd h, nat_bnd2 h]
set_option maxHeartbeats 4000000 in
set_option maxRecDepth 100000 in
theorem w_X7_reduceAll_0 {X : Nat × (Nat → Int32)} {al : Bool} {n : Nat} {Q : Option Value → Mem → Prop} {J : Nat → List Value → Mem → Prop} (hJ : ∀ c l M, J c l M → PW_X7_reduceAll X al n Q c l M) {R : Int32 → Mem → Prop} (hR : ∀ v M, R v M → Q (some (.int v)) M) {a0 : Nat} {a1 : Nat} {a2 : Nat} {M : Mem} (h : T_X7_reduceAll_0 J R False n a0 a1 a2 M) : AW X (RX7, cX7_reduceAll, 6, (some .int), false, al, n) 0 0 0 [(0, .ref a0), (1, .ref a1), (2, .ref a2)] [] M Q := by
  unfold T_X7_reduceAll_0 at h
  refine a_aload_n dX7_reduceAll_0 rfl rfl ?_
  obtain ⟨⟨ga1, gs2⟩, h⟩ := gd_t h
  obtain ⟨r3, e4, h⟩ := bnd_t h
  refine a_get (v := .ref r3) dX7_reduceAll_1 fl_7_21 ga1 gs2 (gvR e4 rfl) ?_
  refine a_aload_n dX7_reduceAll_4 rfl rfl ?_
  obtain ⟨⟨ga5, gs6⟩, h⟩ := gd_t h
  obtain ⟨_, M7, e8, h⟩ := bnd2_t h
  obtain ⟨n9, en10, e8⟩ := cal_t e8
  refine e_callV (As := [.ref a1]) (st := []) (a := r3) (ci := 9) false dX7_reduceAll_5 mw_X9_takeOver (Or.inl ⟨rfl, ml_X7_100⟩) im_X9_takeOver se_X9_takeOver (by decide) ga5 gs6 rfl (Nat.le_of_ble_eq_true rfl) en10 (s_X9_takeOver e8) ?_
  refine a_iconst (v := 0) dX7_reduceAll_8 (by decide) ?_
  refine a_istore_n dX7_reduceAll_9 rfl (Nat.le_of_ble_eq_true rfl) (lv2 := [(3, .int 0), (0, .ref a0), (1, .ref a1), (2, .ref a2)]) rfl ?_
  exact a_lv (lv2 := [(0, .ref a0), (2, .ref a2), (3, .int 0)]) (fa_cons rfl (fa_cons rfl (fa_cons rfl fa_nil))) (hJ _ _ _ h)
set_option maxHeartbeats 4000000 in
set_option maxRecDepth 100000 in
noncomputable def T_X7_reduceAll_10.{u} {α : Sort u} (J : Nat → List Value → Mem → α) (R : Int32 → Mem → α) (N : α) (n : Nat) (a0 : Nat) (a2 : Nat) (x3 : Int32) (M : Mem) : α := if 60 < x3 then R (-4) M else gd (fO M a0 7) N (bnd (M.2.2.2.2 a0 3) N (fun r4 => gd (fO M r4 9) N (bnd2 (cal n (fun n => f_X9_firstRedex n r4 M)) N (fun v8 M9 => if v8 = (-1) then R x3 M9 else bnd (aLen M9 a2) N (fun z14 => if x3 < (Int32.ofNat z14) then gd (fO M9 a0 7) N (bnd (M9.2.2.2.2 a0 3) N (fun r23 => bnd (M9.2.2.2.2 a0 4) N (fun r25 => bnd2 (cal n (fun n => f_X7_reduce n a0 r23 r25 M9)) N (fun v27 M28 => if 0 ≤ v27 then gd (fA M28 a2 1 x3) N (gd (fO M28 a0 7) N (bnd (M28.2.2.2.2 a0 4) N (fun r39 => bnd (M28.2.2.2.2 a0 3) N (fun r41 => J 10 [.ref a0, .ref a2, .int (x3 + 1)] (wR (wR (wI M28 a2 (x3.toNatClampNeg) v27) a0 4 (some r41)) a0 3 (some r39)))))) else R v27 M28)))) else R (-4) M9)))))
set_option maxHeartbeats 4000000 in
set_option maxRecDepth 100000 in
theorem n_X7_reduceAll_10.{u, v} {α : Sort u} {β : Sort v} (h : α → β) (J : Nat → List Value → Mem → α) (R : Int32 → Mem → α) (N : α) (n : Nat) (a0 : Nat) (a2 : Nat) (x3 : Int32) (M : Mem) : h (T_X7_reduceAll_10 J R N n a0 a2 x3 M) = T_X7_reduceAll_10 (fun c l M => h (J c l M)) (fun v M => h (R v M)) (h N) n a0 a2 x3 M := by
  simp only [T_X7_reduceAll_10, nat_ite h, nat_gd h, nat_bnd h, nat_bnd2 h]
set_option maxHeartbeats 4000000 in
set_option maxRecDepth 100000 in
theorem w_X7_reduceAll_10 {X : Nat × (Nat → Int32)} {al : Bool} {n : Nat} {Q : Option Value → Mem → Prop} {J : Nat → List Value → Mem → Prop} (hJ : ∀ c l M, J c l M → PW_X7_reduceAll X al n Q c l M) {R : Int32 → Mem → Prop} (hR : ∀ v M, R v M → Q (some (.int v)) M) {a0 : Nat} {a2 : Nat} {x3 : Int32} {M : Mem} (h : T_X7_reduceAll_10 J R False n a0 a2 x3 M) : AW X (RX7, cX7_reduceAll, 6, (some .int), false, al, n) 0 0 10 [(0, .ref a0), (2, .ref a2), (3, .int x3)] [] M Q := by
  unfold T_X7_reduceAll_10 at h
  refine a_iload_n dX7_reduceAll_10 rfl rfl ?_
  refine a_bipush (v := 60) dX7_reduceAll_11 (by decide) ?_
  refine a_icmp_gt 91 dX7_reduceAll_13 (by decide) (fun c1 => ?_) (fun c1 => ?_)
  · replace h := ite_t c1 h
    refine a_bipush (v := -4) dX7_reduceAll_91 (by decide) ?_
    exact a_iret dX7_reduceAll_93 rfl (hR _ _ h)
  · replace h := ite_f c1 h
    refine a_aload_n dX7_reduceAll_16 rfl rfl ?_
    obtain ⟨⟨ga2, gs3⟩, h⟩ := gd_t h
    obtain ⟨r4, e5, h⟩ := bnd_t h
    refine a_get (v := .ref r4) dX7_reduceAll_17 fl_7_21 ga2 gs3 (gvR e5 rfl) ?_
    obtain ⟨⟨ga6, gs7⟩, h⟩ := gd_t h
    obtain ⟨v8, M9, e10, h⟩ := bnd2_t h
    obtain ⟨n11, en12, e10⟩ := cal_t e10
    refine e_callV (As := []) (st := []) (a := r4) (ci := 9) false dX7_reduceAll_20 mw_X9_firstRedex (Or.inl ⟨rfl, ml_X7_31⟩) im_X9_firstRedex se_X9_firstRedex (by decide) ga6 gs7 rfl (Nat.le_of_ble_eq_true rfl) en12 (s_X9_firstRedex e10) ?_
    refine a_iconst (v := -1) dX7_reduceAll_23 (by decide) ?_
    refine a_icmp_ne 29 dX7_reduceAll_24 (by decide) (fun c13 => ?_) (fun c13 => ?_)
    · replace h := ite_f c13 h
      refine a_iload_n dX7_reduceAll_29 rfl rfl ?_
      refine a_aload_n dX7_reduceAll_30 rfl rfl ?_
      obtain ⟨z14, e15, h⟩ := bnd_t h
      obtain ⟨ga16, gt17, gu18, gs19⟩ := aLen_t e15
      refine a_alen gu18 dX7_reduceAll_31 ga16 gs19 rfl ?_
      refine a_icmp_lt 38 dX7_reduceAll_32 (by decide) (fun c20 => ?_) (fun c20 => ?_)
      · replace h := ite_t c20 h
        refine a_aload_n dX7_reduceAll_38 rfl rfl ?_
        refine a_aload_n dX7_reduceAll_39 rfl rfl ?_
        obtain ⟨⟨ga21, gs22⟩, h⟩ := gd_t h
        obtain ⟨r23, e24, h⟩ := bnd_t h
        refine a_get (v := .ref r23) dX7_reduceAll_40 fl_7_21 ga21 gs22 (gvR e24 rfl) ?_
        refine a_aload_n dX7_reduceAll_43 rfl rfl ?_
        obtain ⟨r25, e26, h⟩ := bnd_t h
        refine a_get (v := .ref r25) dX7_reduceAll_44 fl_7_24 ga21 gs22 (gvR e26 rfl) ?_
        obtain ⟨v27, M28, e29, h⟩ := bnd2_t h
        obtain ⟨n30, en31, e29⟩ := cal_t e29
        refine e_callV (As := [.ref r23, .ref r25]) (st := []) (a := a0) (ci := 7) false dX7_reduceAll_47 mw_X7_reduce (Or.inl ⟨rfl, ml_X7_103⟩) im_X7_reduce se_X7_reduce (by decide) ga21 gs22 rfl (Nat.le_of_ble_eq_true rfl) en31 (s_X7_reduce e29) ?_
        refine a_istore dX7_reduceAll_50 (Nat.le_of_ble_eq_true rfl) (lv2 := [(4, .int v27), (0, .ref a0), (2, .ref a2), (3, .int x3)]) rfl ?_
        refine a_iload dX7_reduceAll_52 rfl ?_
        refine a_if_ge 60 dX7_reduceAll_54 (by decide) (fun c32 => ?_) (fun c32 => ?_)
        · replace h := ite_t c32 h
          refine a_aload_n dX7_reduceAll_60 rfl rfl ?_
          refine a_iload_n dX7_reduceAll_61 rfl rfl ?_
          refine a_iload dX7_reduceAll_62 rfl ?_
          obtain ⟨⟨ga33, gn34, gs35, gi36⟩, h⟩ := gd_t h
          refine a_iastore dX7_reduceAll_64 ga33 gs35 gi36 ?_
          refine a_aload_n dX7_reduceAll_65 rfl rfl ?_
          obtain ⟨⟨ga37, gs38⟩, h⟩ := gd_t h
          obtain ⟨r39, e40, h⟩ := bnd_t h
          refine a_get (v := .ref r39) dX7_reduceAll_66 fl_7_24 ga37 gs38 (gvR e40 rfl) ?_
          refine a_astore dX7_reduceAll_69 (Nat.le_of_ble_eq_true rfl) (lv2 := [(5, .ref r39), (4, .int v27), (0, .ref a0), (2, .ref a2), (3, .int x3)]) rfl ?_
          refine a_aload_n dX7_reduceAll_71 rfl rfl ?_
          refine a_aload_n dX7_reduceAll_72 rfl rfl ?_
          obtain ⟨r41, e42, h⟩ := bnd_t h
          refine a_get (v := .ref r41) dX7_reduceAll_73 fl_7_21 ga37 gs38 (gvR e42 rfl) ?_
          refine a_putR dX7_reduceAll_76 (Or.inl ⟨fl_7_24, Or.inl rfl⟩) rfl ga37 gs38 ?_
          refine a_aload_n dX7_reduceAll_79 rfl rfl ?_
          refine a_aload dX7_reduceAll_80 rfl ?_
          refine a_putR dX7_reduceAll_82 (Or.inl ⟨fl_7_21, Or.inl rfl⟩) rfl ga37 gs38 ?_
          refine a_iinc (v := (x3 + 1)) dX7_reduceAll_85 rfl (by first | rfl | decide) (Nat.le_of_ble_eq_true rfl) (lv2 := [(3, .int (x3 + 1)), (5, .ref r39), (4, .int v27), (0, .ref a0), (2, .ref a2)]) rfl ?_
          refine a_goto 10 dX7_reduceAll_88 (by decide) ?_
          exact a_lv (lv2 := [(0, .ref a0), (2, .ref a2), (3, .int (x3 + 1))]) (fa_cons rfl (fa_cons rfl (fa_cons rfl fa_nil))) (hJ _ _ _ h)
        · replace h := ite_f c32 h
          refine a_iload dX7_reduceAll_57 rfl ?_
          exact a_iret dX7_reduceAll_59 rfl (hR _ _ h)
      · replace h := ite_f c20 h
        refine a_bipush (v := -4) dX7_reduceAll_35 (by decide) ?_
        exact a_iret dX7_reduceAll_37 rfl (hR _ _ h)
    · replace h := ite_t c13 h
      refine a_iload_n dX7_reduceAll_27 rfl rfl ?_
      exact a_iret dX7_reduceAll_28 rfl (hR _ _ h)
set_option maxHeartbeats 4000000 in
set_option maxRecDepth 100000 in
noncomputable def st_X7_reduceAll (n : Nat) (s : Sg) : Option (Sg ⊕ (Int32 × Mem)) := if s.1 = 0 then vR s.2.1 none (fun a0 t => vR t none (fun a1 t => vR t none (fun a2 t => vE t none (T_X7_reduceAll_0 (fun c l M => some (.inl (c, l, M))) (fun v M => some (.inr (v, M))) none n a0 a1 a2 s.2.2)))) else if s.1 = 10 then vR s.2.1 none (fun a0 t => vR t none (fun a2 t => vI t none (fun x3 t => vE t none (T_X7_reduceAll_10 (fun c l M => some (.inl (c, l, M))) (fun v M => some (.inr (v, M))) none n a0 a2 x3 s.2.2)))) else none
noncomputable abbrev g_X7_reduceAll_0 (n : Nat) (a0 : Nat) (a1 : Nat) (a2 : Nat) (M : Mem) : Option (Int32 × Mem) := lp (st_X7_reduceAll n) (0, [.ref a0, .ref a1, .ref a2], M)
set_option maxHeartbeats 4000000 in
set_option maxRecDepth 100000 in
theorem ge_X7_reduceAll_0 (n : Nat) (a0 : Nat) (a1 : Nat) (a2 : Nat) (M : Mem) : g_X7_reduceAll_0 n a0 a1 a2 M = T_X7_reduceAll_0 (fun c l M => lp (st_X7_reduceAll n) (c, l, M)) (fun v M => some (v, M)) none n a0 a1 a2 M := (lp_eq _ _).trans (n_X7_reduceAll_0 (lpK (st_X7_reduceAll n)) (fun c l M => some (.inl (c, l, M))) (fun v M => some (.inr (v, M))) none n a0 a1 a2 M)
noncomputable abbrev g_X7_reduceAll_10 (n : Nat) (a0 : Nat) (a2 : Nat) (x3 : Int32) (M : Mem) : Option (Int32 × Mem) := lp (st_X7_reduceAll n) (10, [.ref a0, .ref a2, .int x3], M)
set_option maxHeartbeats 4000000 in
set_option maxRecDepth 100000 in
theorem ge_X7_reduceAll_10 (n : Nat) (a0 : Nat) (a2 : Nat) (x3 : Int32) (M : Mem) : g_X7_reduceAll_10 n a0 a2 x3 M = T_X7_reduceAll_10 (fun c l M => lp (st_X7_reduceAll n) (c, l, M)) (fun v M => some (v, M)) none n a0 a2 x3 M := (lp_eq _ _).trans (n_X7_reduceAll_10 (lpK (st_X7_reduceAll n)) (fun c l M => some (.inl (c, l, M))) (fun v M => some (.inr (v, M))) none n a0 a2 x3 M)
noncomputable def b_X7_reduceAll (n : Nat) (a0 : Nat) (a1 : Nat) (a2 : Nat) (M : Mem) : Option (Int32 × Mem) := g_X7_reduceAll_0 n a0 a1 a2 M
set_option maxHeartbeats 4000000 in
set_option maxRecDepth 100000 in
theorem sb_X7_reduceAll {X : Nat × (Nat → Int32)} {al : Bool} {n : Nat} {a0 : Nat} {a1 : Nat} {a2 : Nat} {M : Mem} {v : Int32} {M1 : Mem} (h : b_X7_reduceAll n a0 a1 a2 M = some (v, M1)) : AE yX7_reduceAll cX7_reduceAll 6 (some .int) al n X [.ref a0, .ref a1, .ref a2] M (some (.int v)) M1 := by
  refine AM.of false (by decide +kernel) (by intro h; cases h) (Nat.le_of_ble_eq_true rfl) ?_
  refine lp_snd (P := fun s r => PW_X7_reduceAll X al n (fun v M2 => v = (some (.int r.1)) ∧ M2 = r.2) s.1 s.2.1 s.2.2) ?_ h
  clear h
  rintro ⟨c, l, M⟩ r h
  unfold st_X7_reduceAll at h
  rcases ite_p h with ⟨e, h⟩ | ⟨e, h⟩
  · replace e : c = 0 := e
    subst e
    obtain ⟨a0, tt0, e, h⟩ := vR_p id h
    replace e : l = _ := e
    subst e
    obtain ⟨a1, tt1, e, h⟩ := vR_p id h
    replace e : tt0 = _ := e
    subst e
    obtain ⟨a2, tt2, e, h⟩ := vR_p id h
    replace e : tt1 = _ := e
    subst e
    obtain ⟨e, h⟩ := vE_p id h
    replace e : tt2 = [] := e
    subst e
    exact w_X7_reduceAll_0 (J := fun c l M => PW_X7_reduceAll X al n (fun v M2 => v = (some (.int r.1)) ∧ M2 = r.2) c l M) (R := fun v M => (v, M) = r) (fun _ _ _ h => h) (fun v M h => by cases h; exact ⟨rfl, rfl⟩) ((n_X7_reduceAll_0 (lpP (fun (s : Sg) (r : Int32 × Mem) => PW_X7_reduceAll X al n (fun v M2 => v = (some (.int r.1)) ∧ M2 = r.2) s.1 s.2.1 s.2.2) r) (fun c l M => some (.inl (c, l, M))) (fun v M => some (.inr (v, M))) none n a0 a1 a2 M).mp h)
  rcases ite_p h with ⟨e, h⟩ | ⟨e, h⟩
  · replace e : c = 10 := e
    subst e
    obtain ⟨a0, tt0, e, h⟩ := vR_p id h
    replace e : l = _ := e
    subst e
    obtain ⟨a2, tt1, e, h⟩ := vR_p id h
    replace e : tt0 = _ := e
    subst e
    obtain ⟨x3, tt2, e, h⟩ := vI_p id h
    replace e : tt1 = _ := e
    subst e
    obtain ⟨e, h⟩ := vE_p id h
    replace e : tt2 = [] := e
    subst e
    exact w_X7_reduceAll_10 (J := fun c l M => PW_X7_reduceAll X al n (fun v M2 => v = (some (.int r.1)) ∧ M2 = r.2) c l M) (R := fun v M => (v, M) = r) (fun _ _ _ h => h) (fun v M h => by cases h; exact ⟨rfl, rfl⟩) ((n_X7_reduceAll_10 (lpP (fun (s : Sg) (r : Int32 × Mem) => PW_X7_reduceAll X al n (fun v M2 => v = (some (.int r.1)) ∧ M2 = r.2) s.1 s.2.1 s.2.2) r) (fun c l M => some (.inl (c, l, M))) (fun v M => some (.inr (v, M))) none n a0 a2 x3 M).mp h)
  · exact h.elim

noncomputable abbrev f_X7_reduceAll := b_X7_reduceAll
theorem s_X7_reduceAll {X : Nat × (Nat → Int32)} {al : Bool} {n : Nat} {a0 : Nat} {a1 : Nat} {a2 : Nat} {M : Mem} {v : Int32} {M1 : Mem} (h : f_X7_reduceAll n a0 a1 a2 M = some (v, M1)) : AE yX7_reduceAll cX7_reduceAll 6 (some .int) al n X [.ref a0, .ref a1, .ref a2] M (some (.int v)) M1 := sb_X7_reduceAll h
set_option maxHeartbeats 4000000 in
set_option maxRecDepth 100000 in
noncomputable def T_X7_reduced_0.{u} {α : Sort u} (R : Nat → Mem → α) (N : α) (n : Nat) (a0 : Nat) (M : Mem) : α := gd (fO M a0 7) N (bnd (M.2.2.2.2 a0 3) N (fun r3 => R r3 M))
set_option maxHeartbeats 4000000 in
set_option maxRecDepth 100000 in
theorem n_X7_reduced_0.{u, v} {α : Sort u} {β : Sort v} (h : α → β) (R : Nat → Mem → α) (N : α) (n : Nat) (a0 : Nat) (M : Mem) : h (T_X7_reduced_0 R N n a0 M) = T_X7_reduced_0 (fun v M => h (R v M)) (h N) n a0 M := by
  simp only [T_X7_reduced_0, nat_ite h, nat_gd h, nat_bnd h, nat_bnd2 h]
set_option maxHeartbeats 4000000 in
set_option maxRecDepth 100000 in
theorem w_X7_reduced_0 {X : Nat × (Nat → Int32)} {al : Bool} {n : Nat} {Q : Option Value → Mem → Prop} {R : Nat → Mem → Prop} (hR : ∀ v M, R v M → Q (some (.ref v)) M) {a0 : Nat} {M : Mem} (h : T_X7_reduced_0 R False n a0 M) : AW X (RX7, cX7_reduced, 1, (some (FieldType.object "ProofTrim$Term")), false, al, n) 0 0 0 [(0, .ref a0)] [] M Q := by
  unfold T_X7_reduced_0 at h
  refine a_aload_n dX7_reduced_0 rfl rfl ?_
  obtain ⟨⟨ga1, gs2⟩, h⟩ := gd_t h
  obtain ⟨r3, e4, h⟩ := bnd_t h
  refine a_get (v := .ref r3) dX7_reduced_1 fl_7_21 ga1 gs2 (gvR e4 rfl) ?_
  exact a_aret dX7_reduced_4 rfl (Or.inl ⟨_, rfl⟩) (hR _ _ h)
noncomputable def b_X7_reduced (n : Nat) (a0 : Nat) (M : Mem) : Option (Nat × Mem) := T_X7_reduced_0 (fun v M => some (v, M)) none n a0 M
set_option maxHeartbeats 4000000 in
set_option maxRecDepth 100000 in
theorem sb_X7_reduced {X : Nat × (Nat → Int32)} {al : Bool} {n : Nat} {a0 : Nat} {M : Mem} {v : Nat} {M1 : Mem} (h : b_X7_reduced n a0 M = some (v, M1)) : AE yX7_reduced cX7_reduced 1 (some (FieldType.object "ProofTrim$Term")) al n X [.ref a0] M (some (.ref v)) M1 := by
  refine AM.of false (by decide +kernel) (by intro h; cases h) (Nat.le_of_ble_eq_true rfl) ?_
  have h2 : T_X7_reduced_0 (fun v2 M2 => some (v2, M2) = some (v, M1)) (none = some (v, M1)) n a0 M := (n_X7_reduced_0 (fun o => o = some (v, M1)) (fun v M => some (v, M)) none n a0 M).mp h
  have h3 : ((none : Option (Nat × Mem)) = some (v, M1)) = False := eq_false (by intro q; cases q)
  rw [h3] at h2
  exact w_X7_reduced_0 (fun v2 M2 h => by cases h; exact ⟨rfl, rfl⟩) h2

noncomputable abbrev f_X7_reduced := b_X7_reduced
theorem s_X7_reduced {X : Nat × (Nat → Int32)} {al : Bool} {n : Nat} {a0 : Nat} {M : Mem} {v : Nat} {M1 : Mem} (h : f_X7_reduced n a0 M = some (v, M1)) : AE yX7_reduced cX7_reduced 1 (some (FieldType.object "ProofTrim$Term")) al n X [.ref a0] M (some (.ref v)) M1 := sb_X7_reduced h
set_option maxHeartbeats 4000000 in
set_option maxRecDepth 100000 in
noncomputable def T_X10_normal_0.{u} {α : Sort u} (R : Int32 → Mem → α) (N : α) (n : Nat) (a0 : Nat) (x1 : Int32) (M : Mem) : α := bnd2 (cal n (fun n => f_X10_noSlot n x1 M)) N (fun v1 M2 => if v1 = 0 then gd (fO M2 a0 10) N (bnd (M2.2.2.2.2 a0 5) N (fun r9 => gd (fA M2 r9 4 x1) N (bnd (M2.2.2.2.2 r9 (x1.toNatClampNeg)) N (fun r15 => gd (fO M2 r15 9) N (if (M2.2.2.1 r15 2) = 0 then R (-5) M2 else bnd (M2.2.2.2.2 a0 8) N (fun r20 => bnd (M2.2.2.2.2 r9 (x1.toNatClampNeg)) N (fun r22 => bnd (M2.2.2.2.2 a0 13) N (fun r24 => gd (fO M2 r20 7) N (bnd2 (cal n (fun n => f_X7_reduceAll n r20 r22 r24 M2)) N (fun v28 M29 => if 0 ≤ v28 then gd (fO M29 a0 10) N (bnd (M29.2.2.2.2 a0 5) N (fun r36 => gd (fA M29 r36 4 x1) N (bnd (M29.2.2.2.2 r36 (x1.toNatClampNeg)) N (fun r42 => bnd (M29.2.2.2.2 a0 8) N (fun r44 => gd (fO M29 r44 7) N (bnd2 (cal n (fun n => f_X7_reduced n r44 M29)) N (fun v48 M49 => gd (fO M49 r42 9) N (bnd2 (cal n (fun n => f_X9_takeOver n r42 v48 M49)) N (fun _ M55 => gd (fO M55 a0 10) N (bnd (M55.2.2.2.2 a0 13) N (fun r61 => bnd (M55.2.2.2.2 a0 14) N (fun r63 => gd (fC M55 r61 0 r63 0 60 n) N (gd (fO (cpM M55 r61 0 r63 0 60) a0 10) N (R v28 (wI (cpM M55 r61 0 r63 0 60) a0 15 v28))))))))))))))) else R v28 M29)))))))))) else R (-2) M2)
set_option maxHeartbeats 4000000 in
set_option maxRecDepth 100000 in
theorem n_X10_normal_0.{u, v} {α : Sort u} {β : Sort v} (h : α → β) (R : Int32 → Mem → α) (N : α) (n : Nat) (a0 : Nat) (x1 : Int32) (M : Mem) : h (T_X10_normal_0 R N n a0 x1 M) = T_X10_normal_0 (fun v M => h (R v M)) (h N) n a0 x1 M := by
  simp only [T_X10_normal_0, nat_ite h, nat_gd h, nat_bnd h, nat_bnd2 h]
set_option maxHeartbeats 4000000 in
set_option maxRecDepth 100000 in
theorem w_X10_normal_0 {X : Nat × (Nat → Int32)} {al : Bool} {n : Nat} {Q : Option Value → Mem → Prop} {R : Int32 → Mem → Prop} (hR : ∀ v M, R v M → Q (some (.int v)) M) {a0 : Nat} {x1 : Int32} {M : Mem} (h : T_X10_normal_0 R False n a0 x1 M) : AW X (RX10, cX10_normal, 3, (some .int), false, al, n) 0 0 0 [(0, .ref a0), (1, .int x1)] [] M Q := by
  unfold T_X10_normal_0 at h
  refine a_iload_n dX10_normal_0 rfl rfl ?_
  obtain ⟨v1, M2, e3, h⟩ := bnd2_t h
  obtain ⟨n4, en5, e3⟩ := cal_t e3
  refine e_callS (As := [.int x1]) (st := []) false dX10_normal_1 mw_X10_noSlot (Or.inl ⟨rfl, ml_X10_151⟩) sm_X10_noSlot rfl (Nat.le_of_ble_eq_true rfl) en5 (s_X10_noSlot e3) ?_
  refine a_if_eq 10 dX10_normal_4 (by decide) (fun c6 => ?_) (fun c6 => ?_)
  · replace h := ite_t c6 h
    refine a_aload_n dX10_normal_10 rfl rfl ?_
    obtain ⟨⟨ga7, gs8⟩, h⟩ := gd_t h
    obtain ⟨r9, e10, h⟩ := bnd_t h
    refine a_get (v := .ref r9) dX10_normal_11 fl_10_38 ga7 gs8 (gvR e10 rfl) ?_
    refine a_iload_n dX10_normal_14 rfl rfl ?_
    obtain ⟨⟨ga11, gn12, gs13, gi14⟩, h⟩ := gd_t h
    obtain ⟨r15, e16, h⟩ := bnd_t h
    refine a_aaload dX10_normal_15 ga11 gs13 gi14 e16 ?_
    obtain ⟨⟨ga17, gs18⟩, h⟩ := gd_t h
    refine a_getN (v := .int (M2.2.2.1 r15 2)) dX10_normal_16 fn_10_171 ga17 gs18 rfl ?_
    refine a_if_ne 25 dX10_normal_19 (by decide) (fun c19 => ?_) (fun c19 => ?_)
    · replace h := ite_f c19 h
      refine a_aload_n dX10_normal_25 rfl rfl ?_
      obtain ⟨r20, e21, h⟩ := bnd_t h
      refine a_get (v := .ref r20) dX10_normal_26 fl_10_61 ga7 gs8 (gvR e21 rfl) ?_
      refine a_aload_n dX10_normal_29 rfl rfl ?_
      refine a_get (v := .ref r9) dX10_normal_30 fl_10_38 ga7 gs8 (gvR e10 rfl) ?_
      refine a_iload_n dX10_normal_33 rfl rfl ?_
      obtain ⟨r22, e23, h⟩ := bnd_t h
      refine a_aaload dX10_normal_34 ga11 gs13 gi14 e23 ?_
      refine a_aload_n dX10_normal_35 rfl rfl ?_
      obtain ⟨r24, e25, h⟩ := bnd_t h
      refine a_get (v := .ref r24) dX10_normal_36 fl_10_99 ga7 gs8 (gvR e25 rfl) ?_
      obtain ⟨⟨ga26, gs27⟩, h⟩ := gd_t h
      obtain ⟨v28, M29, e30, h⟩ := bnd2_t h
      obtain ⟨n31, en32, e30⟩ := cal_t e30
      refine e_callV (As := [.ref r22, .ref r24]) (st := []) (a := r20) (ci := 7) false dX10_normal_39 mw_X7_reduceAll (Or.inl ⟨rfl, ml_X10_261⟩) im_X7_reduceAll se_X7_reduceAll (by decide) ga26 gs27 rfl (Nat.le_of_ble_eq_true rfl) en32 (s_X7_reduceAll e30) ?_
      refine a_istore_n dX10_normal_42 rfl (Nat.le_of_ble_eq_true rfl) (lv2 := [(2, .int v28), (0, .ref a0), (1, .int x1)]) rfl ?_
      refine a_iload_n dX10_normal_43 rfl rfl ?_
      refine a_if_ge 49 dX10_normal_44 (by decide) (fun c33 => ?_) (fun c33 => ?_)
      · replace h := ite_t c33 h
        refine a_aload_n dX10_normal_49 rfl rfl ?_
        obtain ⟨⟨ga34, gs35⟩, h⟩ := gd_t h
        obtain ⟨r36, e37, h⟩ := bnd_t h
        refine a_get (v := .ref r36) dX10_normal_50 fl_10_38 ga34 gs35 (gvR e37 rfl) ?_
        refine a_iload_n dX10_normal_53 rfl rfl ?_
        obtain ⟨⟨ga38, gn39, gs40, gi41⟩, h⟩ := gd_t h
        obtain ⟨r42, e43, h⟩ := bnd_t h
        refine a_aaload dX10_normal_54 ga38 gs40 gi41 e43 ?_
        refine a_aload_n dX10_normal_55 rfl rfl ?_
        obtain ⟨r44, e45, h⟩ := bnd_t h
        refine a_get (v := .ref r44) dX10_normal_56 fl_10_61 ga34 gs35 (gvR e45 rfl) ?_
        obtain ⟨⟨ga46, gs47⟩, h⟩ := gd_t h
        obtain ⟨v48, M49, e50, h⟩ := bnd2_t h
        obtain ⟨n51, en52, e50⟩ := cal_t e50
        refine e_callV (As := []) (st := [.ref r42]) (a := r44) (ci := 7) false dX10_normal_59 mw_X7_reduced (Or.inl ⟨rfl, ml_X10_265⟩) im_X7_reduced se_X7_reduced (by decide) ga46 gs47 rfl (Nat.le_of_ble_eq_true rfl) en52 (s_X7_reduced e50) ?_
        obtain ⟨⟨ga53, gs54⟩, h⟩ := gd_t h
        obtain ⟨_, M55, e56, h⟩ := bnd2_t h
        obtain ⟨n57, en58, e56⟩ := cal_t e56
        refine e_callV (As := [.ref v48]) (st := []) (a := r42) (ci := 9) false dX10_normal_62 mw_X9_takeOver (Or.inl ⟨rfl, ml_X10_169⟩) im_X9_takeOver se_X9_takeOver (by decide) ga53 gs54 rfl (Nat.le_of_ble_eq_true rfl) en58 (s_X9_takeOver e56) ?_
        refine a_aload_n dX10_normal_65 rfl rfl ?_
        obtain ⟨⟨ga59, gs60⟩, h⟩ := gd_t h
        obtain ⟨r61, e62, h⟩ := bnd_t h
        refine a_get (v := .ref r61) dX10_normal_66 fl_10_99 ga59 gs60 (gvR e62 rfl) ?_
        refine a_iconst (v := 0) dX10_normal_69 (by decide) ?_
        refine a_aload_n dX10_normal_70 rfl rfl ?_
        obtain ⟨r63, e64, h⟩ := bnd_t h
        refine a_get (v := .ref r63) dX10_normal_71 fl_10_102 ga59 gs60 (gvR e64 rfl) ?_
        refine a_iconst (v := 0) dX10_normal_74 (by decide) ?_
        refine a_bipush (v := 60) dX10_normal_75 (by decide) ?_
        obtain ⟨gc65, h⟩ := gd_t h
        refine a_acopy dX10_normal_77 ac_X10 gc65 ?_
        refine a_aload_n dX10_normal_80 rfl rfl ?_
        refine a_iload_n dX10_normal_81 rfl rfl ?_
        obtain ⟨⟨ga66, gs67⟩, h⟩ := gd_t h
        refine a_putI dX10_normal_82 (Or.inl ⟨fl_10_180, Or.inl rfl⟩) rfl ga66 gs67 rfl rfl ?_
        refine a_iload_n dX10_normal_85 rfl rfl ?_
        exact a_iret dX10_normal_86 rfl (hR _ _ h)
      · replace h := ite_f c33 h
        refine a_iload_n dX10_normal_47 rfl rfl ?_
        exact a_iret dX10_normal_48 rfl (hR _ _ h)
    · replace h := ite_t c19 h
      refine a_bipush (v := -5) dX10_normal_22 (by decide) ?_
      exact a_iret dX10_normal_24 rfl (hR _ _ h)
  · replace h := ite_f c6 h
    refine a_bipush (v := -2) dX10_normal_7 (by decide) ?_
    exact a_iret dX10_normal_9 rfl (hR _ _ h)
noncomputable def b_X10_normal (n : Nat) (a0 : Nat) (x1 : Int32) (M : Mem) : Option (Int32 × Mem) := T_X10_normal_0 (fun v M => some (v, M)) none n a0 x1 M
set_option maxHeartbeats 4000000 in
set_option maxRecDepth 100000 in
theorem sb_X10_normal {X : Nat × (Nat → Int32)} {al : Bool} {n : Nat} {a0 : Nat} {x1 : Int32} {M : Mem} {v : Int32} {M1 : Mem} (h : b_X10_normal n a0 x1 M = some (v, M1)) : AE yX10_normal cX10_normal 3 (some .int) al n X [.ref a0, .int x1] M (some (.int v)) M1 := by
  refine AM.of false (by decide +kernel) (by intro h; cases h) (Nat.le_of_ble_eq_true rfl) ?_
  have h2 : T_X10_normal_0 (fun v2 M2 => some (v2, M2) = some (v, M1)) (none = some (v, M1)) n a0 x1 M := (n_X10_normal_0 (fun o => o = some (v, M1)) (fun v M => some (v, M)) none n a0 x1 M).mp h
  have h3 : ((none : Option (Int32 × Mem)) = some (v, M1)) = False := eq_false (by intro q; cases q)
  rw [h3] at h2
  exact w_X10_normal_0 (fun v2 M2 h => by cases h; exact ⟨rfl, rfl⟩) h2

noncomputable abbrev f_X10_normal := b_X10_normal
theorem s_X10_normal {X : Nat × (Nat → Int32)} {al : Bool} {n : Nat} {a0 : Nat} {x1 : Int32} {M : Mem} {v : Int32} {M1 : Mem} (h : f_X10_normal n a0 x1 M = some (v, M1)) : AE yX10_normal cX10_normal 3 (some .int) al n X [.ref a0, .int x1] M (some (.int v)) M1 := sb_X10_normal h
def ix_X11_normalize (c : Nat) : List Nat := if c = 0 then [0] else if c = 5 then [0] else []
def PW_X11_normalize (X : Nat × (Nat → Int32)) (al : Bool) (n : Nat) (Q : Option Value → Mem → Prop) (c : Nat) (l : List Value) (M : Mem) : Prop := AW X (RX11, cX11_normalize, 2, (some .int), false, al, n) 0 0 c (List.zip (ix_X11_normalize c) l) (l.drop (ix_X11_normalize c).length) M Q
set_option maxHeartbeats 4000000 in
set_option maxRecDepth 100000 in
noncomputable def T_X11_normalize_0.{u} {α : Sort u} (J : Nat → List Value → Mem → α) (R : Int32 → Mem → α) (N : α) (n : Nat) (a0 : Nat) (M : Mem) : α := gd (fO M a0 11) N (J 5 [.ref a0] (wI M a0 46 0))
set_option maxHeartbeats 4000000 in
set_option maxRecDepth 100000 in
theorem n_X11_normalize_0.{u, v} {α : Sort u} {β : Sort v} (h : α → β) (J : Nat → List Value → Mem → α) (R : Int32 → Mem → α) (N : α) (n : Nat) (a0 : Nat) (M : Mem) : h (T_X11_normalize_0 J R N n a0 M) = T_X11_normalize_0 (fun c l M => h (J c l M)) (fun v M => h (R v M)) (h N) n a0 M := by
  simp only [T_X11_normalize_0, nat_ite h, nat_gd h, nat_bnd h, nat_bnd2 h]
set_option maxHeartbeats 4000000 in
set_option maxRecDepth 100000 in
theorem w_X11_normalize_0 {X : Nat × (Nat → Int32)} {al : Bool} {n : Nat} {Q : Option Value → Mem → Prop} {J : Nat → List Value → Mem → Prop} (hJ : ∀ c l M, J c l M → PW_X11_normalize X al n Q c l M) {R : Int32 → Mem → Prop} (hR : ∀ v M, R v M → Q (some (.int v)) M) {a0 : Nat} {M : Mem} (h : T_X11_normalize_0 J R False n a0 M) : AW X (RX11, cX11_normalize, 2, (some .int), false, al, n) 0 0 0 [(0, .ref a0)] [] M Q := by
  unfold T_X11_normalize_0 at h
  refine a_aload_n dX11_normalize_0 rfl rfl ?_
  refine a_iconst (v := 0) dX11_normalize_1 (by decide) ?_
  obtain ⟨⟨ga1, gs2⟩, h⟩ := gd_t h
  refine a_putI dX11_normalize_2 (Or.inl ⟨fl_11_352, Or.inl rfl⟩) rfl ga1 gs2 rfl rfl ?_
  exact a_lv (lv2 := [(0, .ref a0)]) (fa_cons rfl fa_nil) (hJ _ _ _ h)
set_option maxHeartbeats 4000000 in
set_option maxRecDepth 100000 in
noncomputable def T_X11_normalize_5.{u} {α : Sort u} (J : Nat → List Value → Mem → α) (R : Int32 → Mem → α) (N : α) (n : Nat) (a0 : Nat) (M : Mem) : α := gd (fO M a0 11) N (bnd2 (cal n (fun n => f_X11_firstRedex n a0 M)) N (fun v3 M4 => if v3 = (-1) then gd (fO M4 a0 11) N (R (M4.2.2.1 a0 46) M4) else gd (fO M4 a0 11) N (if (M4.2.2.1 a0 46) = 60 then R (-4) M4 else bnd2 (cal n (fun n => f_X11_steps n a0 M4)) N (fun v14 M15 => if 0 ≤ v14 then gd (fO M15 a0 11) N (bnd (M15.2.2.2.2 a0 44) N (fun r22 => gd (fA M15 r22 1 (M15.2.2.1 a0 46)) N (J 5 [.ref a0] (wI (wI M15 r22 ((M15.2.2.1 a0 46).toNatClampNeg) v14) a0 46 (((wI M15 r22 ((M15.2.2.1 a0 46).toNatClampNeg) v14).2.2.1 a0 46) + 1))))) else R v14 M15))))
set_option maxHeartbeats 4000000 in
set_option maxRecDepth 100000 in
theorem n_X11_normalize_5.{u, v} {α : Sort u} {β : Sort v} (h : α → β) (J : Nat → List Value → Mem → α) (R : Int32 → Mem → α) (N : α) (n : Nat) (a0 : Nat) (M : Mem) : h (T_X11_normalize_5 J R N n a0 M) = T_X11_normalize_5 (fun c l M => h (J c l M)) (fun v M => h (R v M)) (h N) n a0 M := by
  simp only [T_X11_normalize_5, nat_ite h, nat_gd h, nat_bnd h, nat_bnd2 h]
set_option maxHeartbeats 4000000 in
set_option maxRecDepth 100000 in
theorem w_X11_normalize_5 {X : Nat × (Nat → Int32)} {al : Bool} {n : Nat} {Q : Option Value → Mem → Prop} {J : Nat → List Value → Mem → Prop} (hJ : ∀ c l M, J c l M → PW_X11_normalize X al n Q c l M) {R : Int32 → Mem → Prop} (hR : ∀ v M, R v M → Q (some (.int v)) M) {a0 : Nat} {M : Mem} (h : T_X11_normalize_5 J R False n a0 M) : AW X (RX11, cX11_normalize, 2, (some .int), false, al, n) 0 0 5 [(0, .ref a0)] [] M Q := by
  unfold T_X11_normalize_5 at h
  refine a_aload_n dX11_normalize_5 rfl rfl ?_
  obtain ⟨⟨ga1, gs2⟩, h⟩ := gd_t h
  obtain ⟨v3, M4, e5, h⟩ := bnd2_t h
  obtain ⟨n6, en7, e5⟩ := cal_t e5
  refine e_callV (As := []) (st := []) (a := a0) (ci := 11) false dX11_normalize_6 mw_X11_firstRedex (Or.inl ⟨rfl, ml_X11_328⟩) im_X11_firstRedex se_X11_firstRedex (by decide) ga1 gs2 rfl (Nat.le_of_ble_eq_true rfl) en7 (s_X11_firstRedex e5) ?_
  refine a_iconst (v := -1) dX11_normalize_9 (by decide) ?_
  refine a_icmp_eq 59 dX11_normalize_10 (by decide) (fun c8 => ?_) (fun c8 => ?_)
  · replace h := ite_t c8 h
    refine a_aload_n dX11_normalize_59 rfl rfl ?_
    obtain ⟨⟨ga9, gs10⟩, h⟩ := gd_t h
    refine a_get (v := .int (M4.2.2.1 a0 46)) dX11_normalize_60 fl_11_352 ga9 gs10 rfl ?_
    exact a_iret dX11_normalize_63 rfl (hR _ _ h)
  · replace h := ite_f c8 h
    refine a_aload_n dX11_normalize_13 rfl rfl ?_
    obtain ⟨⟨ga11, gs12⟩, h⟩ := gd_t h
    refine a_get (v := .int (M4.2.2.1 a0 46)) dX11_normalize_14 fl_11_352 ga11 gs12 rfl ?_
    refine a_bipush (v := 60) dX11_normalize_17 (by decide) ?_
    refine a_icmp_ne 25 dX11_normalize_19 (by decide) (fun c13 => ?_) (fun c13 => ?_)
    · replace h := ite_f c13 h
      refine a_aload_n dX11_normalize_25 rfl rfl ?_
      obtain ⟨v14, M15, e16, h⟩ := bnd2_t h
      obtain ⟨n17, en18, e16⟩ := cal_t e16
      refine e_callV (As := []) (st := []) (a := a0) (ci := 11) false dX11_normalize_26 mw_X11_steps (Or.inl ⟨rfl, ml_X11_349⟩) im_X11_steps se_X11_steps (by decide) ga11 gs12 rfl (Nat.le_of_ble_eq_true rfl) en18 (s_X11_steps e16) ?_
      refine a_istore_n dX11_normalize_29 rfl (Nat.le_of_ble_eq_true rfl) (lv2 := [(1, .int v14), (0, .ref a0)]) rfl ?_
      refine a_iload_n dX11_normalize_30 rfl rfl ?_
      refine a_if_ge 36 dX11_normalize_31 (by decide) (fun c19 => ?_) (fun c19 => ?_)
      · replace h := ite_t c19 h
        refine a_aload_n dX11_normalize_36 rfl rfl ?_
        obtain ⟨⟨ga20, gs21⟩, h⟩ := gd_t h
        obtain ⟨r22, e23, h⟩ := bnd_t h
        refine a_get (v := .ref r22) dX11_normalize_37 fl_11_96 ga20 gs21 (gvR e23 rfl) ?_
        refine a_aload_n dX11_normalize_40 rfl rfl ?_
        refine a_get (v := .int (M15.2.2.1 a0 46)) dX11_normalize_41 fl_11_352 ga20 gs21 rfl ?_
        refine a_iload_n dX11_normalize_44 rfl rfl ?_
        obtain ⟨⟨ga24, gn25, gs26, gi27⟩, h⟩ := gd_t h
        refine a_iastore dX11_normalize_45 ga24 gs26 gi27 ?_
        refine a_aload_n dX11_normalize_46 rfl rfl ?_
        refine a_dup dX11_normalize_47 rfl ?_
        refine a_get (v := .int ((wI M15 r22 ((M15.2.2.1 a0 46).toNatClampNeg) v14).2.2.1 a0 46)) dX11_normalize_48 fl_11_352 ga20 gs21 rfl ?_
        refine a_iconst (v := 1) dX11_normalize_51 (by decide) ?_
        refine a_iadd dX11_normalize_52 ?_
        refine a_putI dX11_normalize_53 (Or.inl ⟨fl_11_352, Or.inl rfl⟩) rfl ga20 gs21 rfl rfl ?_
        refine a_goto 5 dX11_normalize_56 (by decide) ?_
        exact a_lv (lv2 := [(0, .ref a0)]) (fa_cons rfl fa_nil) (hJ _ _ _ h)
      · replace h := ite_f c19 h
        refine a_iload_n dX11_normalize_34 rfl rfl ?_
        exact a_iret dX11_normalize_35 rfl (hR _ _ h)
    · replace h := ite_t c13 h
      refine a_bipush (v := -4) dX11_normalize_22 (by decide) ?_
      exact a_iret dX11_normalize_24 rfl (hR _ _ h)
set_option maxHeartbeats 4000000 in
set_option maxRecDepth 100000 in
noncomputable def st_X11_normalize (n : Nat) (s : Sg) : Option (Sg ⊕ (Int32 × Mem)) := if s.1 = 0 then vR s.2.1 none (fun a0 t => vE t none (T_X11_normalize_0 (fun c l M => some (.inl (c, l, M))) (fun v M => some (.inr (v, M))) none n a0 s.2.2)) else if s.1 = 5 then vR s.2.1 none (fun a0 t => vE t none (T_X11_normalize_5 (fun c l M => some (.inl (c, l, M))) (fun v M => some (.inr (v, M))) none n a0 s.2.2)) else none
noncomputable abbrev g_X11_normalize_0 (n : Nat) (a0 : Nat) (M : Mem) : Option (Int32 × Mem) := lp (st_X11_normalize n) (0, [.ref a0], M)
set_option maxHeartbeats 4000000 in
set_option maxRecDepth 100000 in
theorem ge_X11_normalize_0 (n : Nat) (a0 : Nat) (M : Mem) : g_X11_normalize_0 n a0 M = T_X11_normalize_0 (fun c l M => lp (st_X11_normalize n) (c, l, M)) (fun v M => some (v, M)) none n a0 M := (lp_eq _ _).trans (n_X11_normalize_0 (lpK (st_X11_normalize n)) (fun c l M => some (.inl (c, l, M))) (fun v M => some (.inr (v, M))) none n a0 M)
noncomputable abbrev g_X11_normalize_5 (n : Nat) (a0 : Nat) (M : Mem) : Option (Int32 × Mem) := lp (st_X11_normalize n) (5, [.ref a0], M)
set_option maxHeartbeats 4000000 in
set_option maxRecDepth 100000 in
theorem ge_X11_normalize_5 (n : Nat) (a0 : Nat) (M : Mem) : g_X11_normalize_5 n a0 M = T_X11_normalize_5 (fun c l M => lp (st_X11_normalize n) (c, l, M)) (fun v M => some (v, M)) none n a0 M := (lp_eq _ _).trans (n_X11_normalize_5 (lpK (st_X11_normalize n)) (fun c l M => some (.inl (c, l, M))) (fun v M => some (.inr (v, M))) none n a0 M)
noncomputable def b_X11_normalize (n : Nat) (a0 : Nat) (M : Mem) : Option (Int32 × Mem) := g_X11_normalize_0 n a0 M
set_option maxHeartbeats 4000000 in
set_option maxRecDepth 100000 in
theorem sb_X11_normalize {X : Nat × (Nat → Int32)} {al : Bool} {n : Nat} {a0 : Nat} {M : Mem} {v : Int32} {M1 : Mem} (h : b_X11_normalize n a0 M = some (v, M1)) : AE yX11_normalize cX11_normalize 2 (some .int) al n X [.ref a0] M (some (.int v)) M1 := by
  refine AM.of false (by decide +kernel) (by intro h; cases h) (Nat.le_of_ble_eq_true rfl) ?_
  refine lp_snd (P := fun s r => PW_X11_normalize X al n (fun v M2 => v = (some (.int r.1)) ∧ M2 = r.2) s.1 s.2.1 s.2.2) ?_ h
  clear h
  rintro ⟨c, l, M⟩ r h
  unfold st_X11_normalize at h
  rcases ite_p h with ⟨e, h⟩ | ⟨e, h⟩
  · replace e : c = 0 := e
    subst e
    obtain ⟨a0, tt0, e, h⟩ := vR_p id h
    replace e : l = _ := e
    subst e
    obtain ⟨e, h⟩ := vE_p id h
    replace e : tt0 = [] := e
    subst e
    exact w_X11_normalize_0 (J := fun c l M => PW_X11_normalize X al n (fun v M2 => v = (some (.int r.1)) ∧ M2 = r.2) c l M) (R := fun v M => (v, M) = r) (fun _ _ _ h => h) (fun v M h => by cases h; exact ⟨rfl, rfl⟩) ((n_X11_normalize_0 (lpP (fun (s : Sg) (r : Int32 × Mem) => PW_X11_normalize X al n (fun v M2 => v = (some (.int r.1)) ∧ M2 = r.2) s.1 s.2.1 s.2.2) r) (fun c l M => some (.inl (c, l, M))) (fun v M => some (.inr (v, M))) none n a0 M).mp h)
  rcases ite_p h with ⟨e, h⟩ | ⟨e, h⟩
  · replace e : c = 5 := e
    subst e
    obtain ⟨a0, tt0, e, h⟩ := vR_p id h
    replace e : l = _ := e
    subst e
    obtain ⟨e, h⟩ := vE_p id h
    replace e : tt0 = [] := e
    subst e
    exact w_X11_normalize_5 (J := fun c l M => PW_X11_normalize X al n (fun v M2 => v = (some (.int r.1)) ∧ M2 = r.2) c l M) (R := fun v M => (v, M) = r) (fun _ _ _ h => h) (fun v M h => by cases h; exact ⟨rfl, rfl⟩) ((n_X11_normalize_5 (lpP (fun (s : Sg) (r : Int32 × Mem) => PW_X11_normalize X al n (fun v M2 => v = (some (.int r.1)) ∧ M2 = r.2) s.1 s.2.1 s.2.2) r) (fun c l M => some (.inl (c, l, M))) (fun v M => some (.inr (v, M))) none n a0 M).mp h)
  · exact h.elim

noncomputable abbrev f_X11_normalize := b_X11_normalize
theorem s_X11_normalize {X : Nat × (Nat → Int32)} {al : Bool} {n : Nat} {a0 : Nat} {M : Mem} {v : Int32} {M1 : Mem} (h : f_X11_normalize n a0 M = some (v, M1)) : AE yX11_normalize cX11_normalize 2 (some .int) al n X [.ref a0] M (some (.int v)) M1 := sb_X11_normalize h
def ix_X11_normal (c : Nat) : List Nat := if c = 0 then [0, 1] else if c = 54 then [0, 2, 3] else []
def PW_X11_normal (X : Nat × (Nat → Int32)) (al : Bool) (n : Nat) (Q : Option Value → Mem → Prop) (c : Nat) (l : List Value) (M : Mem) : Prop := AW X (RX11, cX11_normal, 4, (some .int), false, al, n) 0 0 c (List.zip (ix_X11_normal c) l) (l.drop (ix_X11_normal c).length) M Q
set_option maxHeartbeats 4000000 in
set_option maxRecDepth 100000 in
noncomputable def T_X11_normal_0.{u} {α : Sort u} (J : Nat → List Value → Mem → α) (R : Int32 → Mem → α) (N : α) (n : Nat) (a0 : Nat) (x1 : Int32) (M : Mem) : α := gd (fO M a0 11) N (bnd2 (cal n (fun n => f_X11_isSlot n x1 (wI M a0 0 0))) N (fun v3 M4 => if v3 = 0 then R (-2) M4 else gd (fO M4 a0 11) N (bnd2 (cal n (fun n => f_X11_isEmpty n a0 x1 M4)) N (fun v11 M12 => if v11 = 0 then gd (fO M12 a0 11) N (bnd2 (cal n (fun n => f_X11_takes n a0 x1 M12)) N (fun _ M19 => gd (fO M19 a0 11) N (bnd2 (cal n (fun n => f_X11_normalize n a0 M19)) N (fun v25 M26 => if 0 ≤ v25 then gd (fO M26 a0 11) N (bnd2 (cal n (fun n => f_X11_stores n a0 x1 M26)) N (fun _ M33 => gd (fO M33 a0 11) N (J 54 [.ref a0, .int v25, .int 0] (wI M33 a0 47 v25)))) else R v25 M26)))) else R (-5) M12))))
set_option maxHeartbeats 4000000 in
set_option maxRecDepth 100000 in
theorem n_X11_normal_0.{u, v} {α : Sort u} {β : Sort v} (h : α → β) (J : Nat → List Value → Mem → α) (R : Int32 → Mem → α) (N : α) (n : Nat) (a0 : Nat) (x1 : Int32) (M : Mem) : h (T_X11_normal_0 J R N n a0 x1 M) = T_X11_normal_0 (fun c l M => h (J c l M)) (fun v M => h (R v M)) (h N) n a0 x1 M := by
  simp only [T_X11_normal_0, nat_ite h, nat_gd h, nat_bnd h, nat_bnd2 h]
set_option maxHeartbeats 4000000 in
set_option maxRecDepth 100000 in
theorem w_X11_normal_0 {X : Nat × (Nat → Int32)} {al : Bool} {n : Nat} {Q : Option Value → Mem → Prop} {J : Nat → List Value → Mem → Prop} (hJ : ∀ c l M, J c l M → PW_X11_normal X al n Q c l M) {R : Int32 → Mem → Prop} (hR : ∀ v M, R v M → Q (some (.int v)) M) {a0 : Nat} {x1 : Int32} {M : Mem} (h : T_X11_normal_0 J R False n a0 x1 M) : AW X (RX11, cX11_normal, 4, (some .int), false, al, n) 0 0 0 [(0, .ref a0), (1, .int x1)] [] M Q := by
  unfold T_X11_normal_0 at h
  refine a_aload_n dX11_normal_0 rfl rfl ?_
  refine a_iconst (v := 0) dX11_normal_1 (by decide) ?_
  obtain ⟨⟨ga1, gs2⟩, h⟩ := gd_t h
  refine a_putI dX11_normal_2 (Or.inl ⟨fl_11_1, Or.inl rfl⟩) rfl ga1 gs2 rfl rfl ?_
  refine a_iload_n dX11_normal_5 rfl rfl ?_
  obtain ⟨v3, M4, e5, h⟩ := bnd2_t h
  obtain ⟨n6, en7, e5⟩ := cal_t e5
  refine e_callS (As := [.int x1]) (st := []) false dX11_normal_6 mw_X11_isSlot (Or.inl ⟨rfl, ml_X11_271⟩) sm_X11_isSlot rfl (Nat.le_of_ble_eq_true rfl) en7 (s_X11_isSlot e5) ?_
  refine a_if_ne 15 dX11_normal_9 (by decide) (fun c8 => ?_) (fun c8 => ?_)
  · replace h := ite_f c8 h
    refine a_aload_n dX11_normal_15 rfl rfl ?_
    refine a_iload_n dX11_normal_16 rfl rfl ?_
    obtain ⟨⟨ga9, gs10⟩, h⟩ := gd_t h
    obtain ⟨v11, M12, e13, h⟩ := bnd2_t h
    obtain ⟨n14, en15, e13⟩ := cal_t e13
    refine e_callV (As := [.int x1]) (st := []) (a := a0) (ci := 11) false dX11_normal_17 mw_X11_isEmpty (Or.inl ⟨rfl, ml_X11_343⟩) im_X11_isEmpty se_X11_isEmpty (by decide) ga9 gs10 rfl (Nat.le_of_ble_eq_true rfl) en15 (s_X11_isEmpty e13) ?_
    refine a_if_eq 26 dX11_normal_20 (by decide) (fun c16 => ?_) (fun c16 => ?_)
    · replace h := ite_t c16 h
      refine a_aload_n dX11_normal_26 rfl rfl ?_
      refine a_iload_n dX11_normal_27 rfl rfl ?_
      obtain ⟨⟨ga17, gs18⟩, h⟩ := gd_t h
      obtain ⟨_, M19, e20, h⟩ := bnd2_t h
      obtain ⟨n21, en22, e20⟩ := cal_t e20
      refine e_callV (As := [.int x1]) (st := []) (a := a0) (ci := 11) false dX11_normal_28 mw_X11_takes (Or.inl ⟨rfl, ml_X11_346⟩) im_X11_takes se_X11_takes (by decide) ga17 gs18 rfl (Nat.le_of_ble_eq_true rfl) en22 (s_X11_takes e20) ?_
      refine a_aload_n dX11_normal_31 rfl rfl ?_
      obtain ⟨⟨ga23, gs24⟩, h⟩ := gd_t h
      obtain ⟨v25, M26, e27, h⟩ := bnd2_t h
      obtain ⟨n28, en29, e27⟩ := cal_t e27
      refine e_callV (As := []) (st := []) (a := a0) (ci := 11) false dX11_normal_32 mw_X11_normalize (Or.inl ⟨rfl, ml_X11_355⟩) im_X11_normalize se_X11_normalize (by decide) ga23 gs24 rfl (Nat.le_of_ble_eq_true rfl) en29 (s_X11_normalize e27) ?_
      refine a_istore_n dX11_normal_35 rfl (Nat.le_of_ble_eq_true rfl) (lv2 := [(2, .int v25), (0, .ref a0), (1, .int x1)]) rfl ?_
      refine a_iload_n dX11_normal_36 rfl rfl ?_
      refine a_if_ge 42 dX11_normal_37 (by decide) (fun c30 => ?_) (fun c30 => ?_)
      · replace h := ite_t c30 h
        refine a_aload_n dX11_normal_42 rfl rfl ?_
        refine a_iload_n dX11_normal_43 rfl rfl ?_
        obtain ⟨⟨ga31, gs32⟩, h⟩ := gd_t h
        obtain ⟨_, M33, e34, h⟩ := bnd2_t h
        obtain ⟨n35, en36, e34⟩ := cal_t e34
        refine e_callV (As := [.int x1]) (st := []) (a := a0) (ci := 11) false dX11_normal_44 mw_X11_stores (Or.inl ⟨rfl, ml_X11_278⟩) im_X11_stores se_X11_stores (by decide) ga31 gs32 rfl (Nat.le_of_ble_eq_true rfl) en36 (s_X11_stores e34) ?_
        refine a_aload_n dX11_normal_47 rfl rfl ?_
        refine a_iload_n dX11_normal_48 rfl rfl ?_
        obtain ⟨⟨ga37, gs38⟩, h⟩ := gd_t h
        refine a_putI dX11_normal_49 (Or.inl ⟨fl_11_358, Or.inl rfl⟩) rfl ga37 gs38 rfl rfl ?_
        refine a_iconst (v := 0) dX11_normal_52 (by decide) ?_
        refine a_istore_n dX11_normal_53 rfl (Nat.le_of_ble_eq_true rfl) (lv2 := [(3, .int 0), (2, .int v25), (0, .ref a0), (1, .int x1)]) rfl ?_
        exact a_lv (lv2 := [(0, .ref a0), (2, .int v25), (3, .int 0)]) (fa_cons rfl (fa_cons rfl (fa_cons rfl fa_nil))) (hJ _ _ _ h)
      · replace h := ite_f c30 h
        refine a_iload_n dX11_normal_40 rfl rfl ?_
        exact a_iret dX11_normal_41 rfl (hR _ _ h)
    · replace h := ite_f c16 h
      refine a_bipush (v := -5) dX11_normal_23 (by decide) ?_
      exact a_iret dX11_normal_25 rfl (hR _ _ h)
  · replace h := ite_t c8 h
    refine a_bipush (v := -2) dX11_normal_12 (by decide) ?_
    exact a_iret dX11_normal_14 rfl (hR _ _ h)
set_option maxHeartbeats 4000000 in
set_option maxRecDepth 100000 in
noncomputable def T_X11_normal_54.{u} {α : Sort u} (J : Nat → List Value → Mem → α) (R : Int32 → Mem → α) (N : α) (n : Nat) (a0 : Nat) (x2 : Int32) (x3 : Int32) (M : Mem) : α := if x2 ≤ x3 then R x2 M else gd (fO M a0 11) N (bnd (M.2.2.2.2 a0 45) N (fun r4 => bnd (M.2.2.2.2 a0 44) N (fun r6 => gd (fA M r6 1 x3) N (gd (fA M r4 1 x3) N (J 54 [.ref a0, .int x2, .int (x3 + 1)] (wI M r4 (x3.toNatClampNeg) (M.2.2.1 r6 (x3.toNatClampNeg))))))))
set_option maxHeartbeats 4000000 in
set_option maxRecDepth 100000 in
theorem n_X11_normal_54.{u, v} {α : Sort u} {β : Sort v} (h : α → β) (J : Nat → List Value → Mem → α) (R : Int32 → Mem → α) (N : α) (n : Nat) (a0 : Nat) (x2 : Int32) (x3 : Int32) (M : Mem) : h (T_X11_normal_54 J R N n a0 x2 x3 M) = T_X11_normal_54 (fun c l M => h (J c l M)) (fun v M => h (R v M)) (h N) n a0 x2 x3 M := by
  simp only [T_X11_normal_54, nat_ite h, nat_gd h, nat_bnd h, nat_bnd2 h]
set_option maxHeartbeats 4000000 in
set_option maxRecDepth 100000 in
theorem w_X11_normal_54 {X : Nat × (Nat → Int32)} {al : Bool} {n : Nat} {Q : Option Value → Mem → Prop} {J : Nat → List Value → Mem → Prop} (hJ : ∀ c l M, J c l M → PW_X11_normal X al n Q c l M) {R : Int32 → Mem → Prop} (hR : ∀ v M, R v M → Q (some (.int v)) M) {a0 : Nat} {x2 : Int32} {x3 : Int32} {M : Mem} (h : T_X11_normal_54 J R False n a0 x2 x3 M) : AW X (RX11, cX11_normal, 4, (some .int), false, al, n) 0 0 54 [(0, .ref a0), (2, .int x2), (3, .int x3)] [] M Q := by
  unfold T_X11_normal_54 at h
  refine a_iload_n dX11_normal_54 rfl rfl ?_
  refine a_iload_n dX11_normal_55 rfl rfl ?_
  refine a_icmp_ge 77 dX11_normal_56 (by decide) (fun c1 => ?_) (fun c1 => ?_)
  · replace h := ite_t c1 h
    refine a_iload_n dX11_normal_77 rfl rfl ?_
    exact a_iret dX11_normal_78 rfl (hR _ _ h)
  · replace h := ite_f c1 h
    refine a_aload_n dX11_normal_59 rfl rfl ?_
    obtain ⟨⟨ga2, gs3⟩, h⟩ := gd_t h
    obtain ⟨r4, e5, h⟩ := bnd_t h
    refine a_get (v := .ref r4) dX11_normal_60 fl_11_99 ga2 gs3 (gvR e5 rfl) ?_
    refine a_iload_n dX11_normal_63 rfl rfl ?_
    refine a_aload_n dX11_normal_64 rfl rfl ?_
    obtain ⟨r6, e7, h⟩ := bnd_t h
    refine a_get (v := .ref r6) dX11_normal_65 fl_11_96 ga2 gs3 (gvR e7 rfl) ?_
    refine a_iload_n dX11_normal_68 rfl rfl ?_
    obtain ⟨⟨ga8, gn9, gs10, gi11⟩, h⟩ := gd_t h
    refine a_iaload dX11_normal_69 ga8 gs10 gi11 ?_
    obtain ⟨⟨ga12, gn13, gs14, gi15⟩, h⟩ := gd_t h
    refine a_iastore dX11_normal_70 ga12 gs14 gi15 ?_
    refine a_iinc (v := (x3 + 1)) dX11_normal_71 rfl (by first | rfl | decide) (Nat.le_of_ble_eq_true rfl) (lv2 := [(3, .int (x3 + 1)), (0, .ref a0), (2, .int x2)]) rfl ?_
    refine a_goto 54 dX11_normal_74 (by decide) ?_
    exact a_lv (lv2 := [(0, .ref a0), (2, .int x2), (3, .int (x3 + 1))]) (fa_cons rfl (fa_cons rfl (fa_cons rfl fa_nil))) (hJ _ _ _ h)
set_option maxHeartbeats 4000000 in
set_option maxRecDepth 100000 in
noncomputable def st_X11_normal (n : Nat) (s : Sg) : Option (Sg ⊕ (Int32 × Mem)) := if s.1 = 0 then vR s.2.1 none (fun a0 t => vI t none (fun x1 t => vE t none (T_X11_normal_0 (fun c l M => some (.inl (c, l, M))) (fun v M => some (.inr (v, M))) none n a0 x1 s.2.2))) else if s.1 = 54 then vR s.2.1 none (fun a0 t => vI t none (fun x2 t => vI t none (fun x3 t => vE t none (T_X11_normal_54 (fun c l M => some (.inl (c, l, M))) (fun v M => some (.inr (v, M))) none n a0 x2 x3 s.2.2)))) else none
noncomputable abbrev g_X11_normal_0 (n : Nat) (a0 : Nat) (x1 : Int32) (M : Mem) : Option (Int32 × Mem) := lp (st_X11_normal n) (0, [.ref a0, .int x1], M)
set_option maxHeartbeats 4000000 in
set_option maxRecDepth 100000 in
theorem ge_X11_normal_0 (n : Nat) (a0 : Nat) (x1 : Int32) (M : Mem) : g_X11_normal_0 n a0 x1 M = T_X11_normal_0 (fun c l M => lp (st_X11_normal n) (c, l, M)) (fun v M => some (v, M)) none n a0 x1 M := (lp_eq _ _).trans (n_X11_normal_0 (lpK (st_X11_normal n)) (fun c l M => some (.inl (c, l, M))) (fun v M => some (.inr (v, M))) none n a0 x1 M)
noncomputable abbrev g_X11_normal_54 (n : Nat) (a0 : Nat) (x2 : Int32) (x3 : Int32) (M : Mem) : Option (Int32 × Mem) := lp (st_X11_normal n) (54, [.ref a0, .int x2, .int x3], M)
set_option maxHeartbeats 4000000 in
set_option maxRecDepth 100000 in
theorem ge_X11_normal_54 (n : Nat) (a0 : Nat) (x2 : Int32) (x3 : Int32) (M : Mem) : g_X11_normal_54 n a0 x2 x3 M = T_X11_normal_54 (fun c l M => lp (st_X11_normal n) (c, l, M)) (fun v M => some (v, M)) none n a0 x2 x3 M := (lp_eq _ _).trans (n_X11_normal_54 (lpK (st_X11_normal n)) (fun c l M => some (.inl (c, l, M))) (fun v M => some (.inr (v, M))) none n a0 x2 x3 M)
noncomputable def b_X11_normal (n : Nat) (a0 : Nat) (x1 : Int32) (M : Mem) : Option (Int32 × Mem) := g_X11_normal_0 n a0 x1 M
set_option maxHeartbeats 4000000 in
set_option maxRecDepth 100000 in
theorem sb_X11_normal {X : Nat × (Nat → Int32)} {al : Bool} {n : Nat} {a0 : Nat} {x1 : Int32} {M : Mem} {v : Int32} {M1 : Mem} (h : b_X11_normal n a0 x1 M = some (v, M1)) : AE yX11_normal cX11_normal 4 (some .int) al n X [.ref a0, .int x1] M (some (.int v)) M1 := by
  refine AM.of false (by decide +kernel) (by intro h; cases h) (Nat.le_of_ble_eq_true rfl) ?_
  refine lp_snd (P := fun s r => PW_X11_normal X al n (fun v M2 => v = (some (.int r.1)) ∧ M2 = r.2) s.1 s.2.1 s.2.2) ?_ h
  clear h
  rintro ⟨c, l, M⟩ r h
  unfold st_X11_normal at h
  rcases ite_p h with ⟨e, h⟩ | ⟨e, h⟩
  · replace e : c = 0 := e
    subst e
    obtain ⟨a0, tt0, e, h⟩ := vR_p id h
    replace e : l = _ := e
    subst e
    obtain ⟨x1, tt1, e, h⟩ := vI_p id h
    replace e : tt0 = _ := e
    subst e
    obtain ⟨e, h⟩ := vE_p id h
    replace e : tt1 = [] := e
    subst e
    exact w_X11_normal_0 (J := fun c l M => PW_X11_normal X al n (fun v M2 => v = (some (.int r.1)) ∧ M2 = r.2) c l M) (R := fun v M => (v, M) = r) (fun _ _ _ h => h) (fun v M h => by cases h; exact ⟨rfl, rfl⟩) ((n_X11_normal_0 (lpP (fun (s : Sg) (r : Int32 × Mem) => PW_X11_normal X al n (fun v M2 => v = (some (.int r.1)) ∧ M2 = r.2) s.1 s.2.1 s.2.2) r) (fun c l M => some (.inl (c, l, M))) (fun v M => some (.inr (v, M))) none n a0 x1 M).mp h)
  rcases ite_p h with ⟨e, h⟩ | ⟨e, h⟩
  · replace e : c = 54 := e
    subst e
    obtain ⟨a0, tt0, e, h⟩ := vR_p id h
    replace e : l = _ := e
    subst e
    obtain ⟨x2, tt1, e, h⟩ := vI_p id h
    replace e : tt0 = _ := e
    subst e
    obtain ⟨x3, tt2, e, h⟩ := vI_p id h
    replace e : tt1 = _ := e
    subst e
    obtain ⟨e, h⟩ := vE_p id h
    replace e : tt2 = [] := e
    subst e
    exact w_X11_normal_54 (J := fun c l M => PW_X11_normal X al n (fun v M2 => v = (some (.int r.1)) ∧ M2 = r.2) c l M) (R := fun v M => (v, M) = r) (fun _ _ _ h => h) (fun v M h => by cases h; exact ⟨rfl, rfl⟩) ((n_X11_normal_54 (lpP (fun (s : Sg) (r : Int32 × Mem) => PW_X11_normal X al n (fun v M2 => v = (some (.int r.1)) ∧ M2 = r.2) s.1 s.2.1 s.2.2) r) (fun c l M => some (.inl (c, l, M))) (fun v M => some (.inr (v, M))) none n a0 x2 x3 M).mp h)
  · exact h.elim

noncomputable abbrev f_X11_normal := b_X11_normal
theorem s_X11_normal {X : Nat × (Nat → Int32)} {al : Bool} {n : Nat} {a0 : Nat} {x1 : Int32} {M : Mem} {v : Int32} {M1 : Mem} (h : f_X11_normal n a0 x1 M = some (v, M1)) : AE yX11_normal cX11_normal 4 (some .int) al n X [.ref a0, .int x1] M (some (.int v)) M1 := sb_X11_normal h
set_option maxHeartbeats 4000000 in
set_option maxRecDepth 100000 in
noncomputable def T_X10_trace_0.{u} {α : Sort u} (R : Int32 → Mem → α) (N : α) (n : Nat) (a0 : Nat) (x1 : Int32) (M : Mem) : α := if x1 < 0 then R (-2) M else gd (fO M a0 10) N (if (M.2.2.1 a0 15) ≤ x1 then R (-2) M else if x1 < 60 then bnd (M.2.2.2.2 a0 14) N (fun r6 => gd (fA M r6 1 x1) N (R (M.2.2.1 r6 (x1.toNatClampNeg)) M)) else R (-2) M)
set_option maxHeartbeats 4000000 in
set_option maxRecDepth 100000 in
theorem n_X10_trace_0.{u, v} {α : Sort u} {β : Sort v} (h : α → β) (R : Int32 → Mem → α) (N : α) (n : Nat) (a0 : Nat) (x1 : Int32) (M : Mem) : h (T_X10_trace_0 R N n a0 x1 M) = T_X10_trace_0 (fun v M => h (R v M)) (h N) n a0 x1 M := by
  simp only [T_X10_trace_0, nat_ite h, nat_gd h, nat_bnd h, nat_bnd2 h]
set_option maxHeartbeats 4000000 in
set_option maxRecDepth 100000 in
theorem w_X10_trace_0 {X : Nat × (Nat → Int32)} {al : Bool} {n : Nat} {Q : Option Value → Mem → Prop} {R : Int32 → Mem → Prop} (hR : ∀ v M, R v M → Q (some (.int v)) M) {a0 : Nat} {x1 : Int32} {M : Mem} (h : T_X10_trace_0 R False n a0 x1 M) : AW X (RX10, cX10_trace, 2, (some .int), false, al, n) 0 0 0 [(0, .ref a0), (1, .int x1)] [] M Q := by
  unfold T_X10_trace_0 at h
  refine a_iload_n dX10_trace_0 rfl rfl ?_
  refine a_if_lt 18 dX10_trace_1 (by decide) (fun c1 => ?_) (fun c1 => ?_)
  · replace h := ite_t c1 h
    refine a_bipush (v := -2) dX10_trace_18 (by decide) ?_
    refine a_goto 29 dX10_trace_20 (by decide) ?_
    exact a_iret dX10_trace_29 rfl (hR _ _ h)
  · replace h := ite_f c1 h
    refine a_iload_n dX10_trace_4 rfl rfl ?_
    refine a_aload_n dX10_trace_5 rfl rfl ?_
    obtain ⟨⟨ga2, gs3⟩, h⟩ := gd_t h
    refine a_get (v := .int (M.2.2.1 a0 15)) dX10_trace_6 fl_10_180 ga2 gs3 rfl ?_
    refine a_icmp_ge 18 dX10_trace_9 (by decide) (fun c4 => ?_) (fun c4 => ?_)
    · replace h := ite_t c4 h
      refine a_bipush (v := -2) dX10_trace_18 (by decide) ?_
      refine a_goto 29 dX10_trace_20 (by decide) ?_
      exact a_iret dX10_trace_29 rfl (hR _ _ h)
    · replace h := ite_f c4 h
      refine a_iload_n dX10_trace_12 rfl rfl ?_
      refine a_bipush (v := 60) dX10_trace_13 (by decide) ?_
      refine a_icmp_lt 23 dX10_trace_15 (by decide) (fun c5 => ?_) (fun c5 => ?_)
      · replace h := ite_t c5 h
        refine a_aload_n dX10_trace_23 rfl rfl ?_
        obtain ⟨r6, e7, h⟩ := bnd_t h
        refine a_get (v := .ref r6) dX10_trace_24 fl_10_102 ga2 gs3 (gvR e7 rfl) ?_
        refine a_iload_n dX10_trace_27 rfl rfl ?_
        obtain ⟨⟨ga8, gn9, gs10, gi11⟩, h⟩ := gd_t h
        refine a_iaload dX10_trace_28 ga8 gs10 gi11 ?_
        exact a_iret dX10_trace_29 rfl (hR _ _ h)
      · replace h := ite_f c5 h
        refine a_bipush (v := -2) dX10_trace_18 (by decide) ?_
        refine a_goto 29 dX10_trace_20 (by decide) ?_
        exact a_iret dX10_trace_29 rfl (hR _ _ h)
noncomputable def b_X10_trace (n : Nat) (a0 : Nat) (x1 : Int32) (M : Mem) : Option (Int32 × Mem) := T_X10_trace_0 (fun v M => some (v, M)) none n a0 x1 M
set_option maxHeartbeats 4000000 in
set_option maxRecDepth 100000 in
theorem sb_X10_trace {X : Nat × (Nat → Int32)} {al : Bool} {n : Nat} {a0 : Nat} {x1 : Int32} {M : Mem} {v : Int32} {M1 : Mem} (h : b_X10_trace n a0 x1 M = some (v, M1)) : AE yX10_trace cX10_trace 2 (some .int) al n X [.ref a0, .int x1] M (some (.int v)) M1 := by
  refine AM.of false (by decide +kernel) (by intro h; cases h) (Nat.le_of_ble_eq_true rfl) ?_
  have h2 : T_X10_trace_0 (fun v2 M2 => some (v2, M2) = some (v, M1)) (none = some (v, M1)) n a0 x1 M := (n_X10_trace_0 (fun o => o = some (v, M1)) (fun v M => some (v, M)) none n a0 x1 M).mp h
  have h3 : ((none : Option (Int32 × Mem)) = some (v, M1)) = False := eq_false (by intro q; cases q)
  rw [h3] at h2
  exact w_X10_trace_0 (fun v2 M2 h => by cases h; exact ⟨rfl, rfl⟩) h2

noncomputable abbrev f_X10_trace := b_X10_trace
theorem s_X10_trace {X : Nat × (Nat → Int32)} {al : Bool} {n : Nat} {a0 : Nat} {x1 : Int32} {M : Mem} {v : Int32} {M1 : Mem} (h : f_X10_trace n a0 x1 M = some (v, M1)) : AE yX10_trace cX10_trace 2 (some .int) al n X [.ref a0, .int x1] M (some (.int v)) M1 := sb_X10_trace h
set_option maxHeartbeats 4000000 in
set_option maxRecDepth 100000 in
noncomputable def T_X11_trace_0.{u} {α : Sort u} (R : Int32 → Mem → α) (N : α) (n : Nat) (a0 : Nat) (x1 : Int32) (M : Mem) : α := gd (fO M a0 11) N (bnd2 (cal n (fun n => f_X11_isIn n (Int32.toInt64 x1) 0 (Int32.toInt64 (((wI M a0 0 0).2.2.1 a0 47) - 1)) (wI M a0 0 0))) N (fun v3 M4 => if v3 = 0 then R (-2) M4 else gd (fO M4 a0 11) N (bnd (M4.2.2.2.2 a0 45) N (fun r11 => gd (fA M4 r11 1 x1) N (R (M4.2.2.1 r11 (x1.toNatClampNeg)) M4)))))
set_option maxHeartbeats 4000000 in
set_option maxRecDepth 100000 in
theorem n_X11_trace_0.{u, v} {α : Sort u} {β : Sort v} (h : α → β) (R : Int32 → Mem → α) (N : α) (n : Nat) (a0 : Nat) (x1 : Int32) (M : Mem) : h (T_X11_trace_0 R N n a0 x1 M) = T_X11_trace_0 (fun v M => h (R v M)) (h N) n a0 x1 M := by
  simp only [T_X11_trace_0, nat_ite h, nat_gd h, nat_bnd h, nat_bnd2 h]
set_option maxHeartbeats 4000000 in
set_option maxRecDepth 100000 in
theorem w_X11_trace_0 {X : Nat × (Nat → Int32)} {al : Bool} {n : Nat} {Q : Option Value → Mem → Prop} {R : Int32 → Mem → Prop} (hR : ∀ v M, R v M → Q (some (.int v)) M) {a0 : Nat} {x1 : Int32} {M : Mem} (h : T_X11_trace_0 R False n a0 x1 M) : AW X (RX11, cX11_trace, 2, (some .int), false, al, n) 0 0 0 [(0, .ref a0), (1, .int x1)] [] M Q := by
  unfold T_X11_trace_0 at h
  refine a_aload_n dX11_trace_0 rfl rfl ?_
  refine a_iconst (v := 0) dX11_trace_1 (by decide) ?_
  obtain ⟨⟨ga1, gs2⟩, h⟩ := gd_t h
  refine a_putI dX11_trace_2 (Or.inl ⟨fl_11_1, Or.inl rfl⟩) rfl ga1 gs2 rfl rfl ?_
  refine a_iload_n dX11_trace_5 rfl rfl ?_
  refine a_i2l dX11_trace_6 ?_
  refine a_lconst (v := 0) dX11_trace_7 (by decide) ?_
  refine a_aload_n dX11_trace_8 rfl rfl ?_
  refine a_get (v := .int ((wI M a0 0 0).2.2.1 a0 47)) dX11_trace_9 fl_11_358 ga1 gs2 rfl ?_
  refine a_iconst (v := 1) dX11_trace_12 (by decide) ?_
  refine a_isub dX11_trace_13 ?_
  refine a_i2l dX11_trace_14 ?_
  obtain ⟨v3, M4, e5, h⟩ := bnd2_t h
  obtain ⟨n6, en7, e5⟩ := cal_t e5
  refine e_callS (As := [.long (Int32.toInt64 x1), .long 0, .long (Int32.toInt64 (((wI M a0 0 0).2.2.1 a0 47) - 1))]) (st := []) false dX11_trace_15 mw_X11_isIn (Or.inl ⟨rfl, ml_X11_180⟩) sm_X11_isIn rfl (Nat.le_of_ble_eq_true rfl) en7 (s_X11_isIn e5) ?_
  refine a_if_eq 30 dX11_trace_18 (by decide) (fun c8 => ?_) (fun c8 => ?_)
  · replace h := ite_t c8 h
    refine a_bipush (v := -2) dX11_trace_30 (by decide) ?_
    exact a_iret dX11_trace_32 rfl (hR _ _ h)
  · replace h := ite_f c8 h
    refine a_aload_n dX11_trace_21 rfl rfl ?_
    obtain ⟨⟨ga9, gs10⟩, h⟩ := gd_t h
    obtain ⟨r11, e12, h⟩ := bnd_t h
    refine a_get (v := .ref r11) dX11_trace_22 fl_11_99 ga9 gs10 (gvR e12 rfl) ?_
    refine a_iload_n dX11_trace_25 rfl rfl ?_
    obtain ⟨⟨ga13, gn14, gs15, gi16⟩, h⟩ := gd_t h
    refine a_iaload dX11_trace_26 ga13 gs15 gi16 ?_
    refine a_goto 32 dX11_trace_27 (by decide) ?_
    exact a_iret dX11_trace_32 rfl (hR _ _ h)
noncomputable def b_X11_trace (n : Nat) (a0 : Nat) (x1 : Int32) (M : Mem) : Option (Int32 × Mem) := T_X11_trace_0 (fun v M => some (v, M)) none n a0 x1 M
set_option maxHeartbeats 4000000 in
set_option maxRecDepth 100000 in
theorem sb_X11_trace {X : Nat × (Nat → Int32)} {al : Bool} {n : Nat} {a0 : Nat} {x1 : Int32} {M : Mem} {v : Int32} {M1 : Mem} (h : b_X11_trace n a0 x1 M = some (v, M1)) : AE yX11_trace cX11_trace 2 (some .int) al n X [.ref a0, .int x1] M (some (.int v)) M1 := by
  refine AM.of false (by decide +kernel) (by intro h; cases h) (Nat.le_of_ble_eq_true rfl) ?_
  have h2 : T_X11_trace_0 (fun v2 M2 => some (v2, M2) = some (v, M1)) (none = some (v, M1)) n a0 x1 M := (n_X11_trace_0 (fun o => o = some (v, M1)) (fun v M => some (v, M)) none n a0 x1 M).mp h
  have h3 : ((none : Option (Int32 × Mem)) = some (v, M1)) = False := eq_false (by intro q; cases q)
  rw [h3] at h2
  exact w_X11_trace_0 (fun v2 M2 h => by cases h; exact ⟨rfl, rfl⟩) h2

noncomputable abbrev f_X11_trace := b_X11_trace
theorem s_X11_trace {X : Nat × (Nat → Int32)} {al : Bool} {n : Nat} {a0 : Nat} {x1 : Int32} {M : Mem} {v : Int32} {M1 : Mem} (h : f_X11_trace n a0 x1 M = some (v, M1)) : AE yX11_trace cX11_trace 2 (some .int) al n X [.ref a0, .int x1] M (some (.int v)) M1 := sb_X11_trace h
