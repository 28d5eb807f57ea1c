/-! METHODS AS FUNCTIONS, written by wip/gen/shallow.py -/
set_option maxHeartbeats 4000000 in
set_option maxRecDepth 100000 in
noncomputable def T_X11_asked_0.{u} {α : Sort u} (R : Int32 → Mem → α) (N : α) (n : Nat) (a0 : Nat) (M : Mem) : α := gd (fO M a0 11) N (bnd2 (cal n (fun n => f_X11_proves n a0 (wI M a0 30 0))) N (fun v3 M4 => R v3 M4))
set_option maxHeartbeats 4000000 in
set_option maxRecDepth 100000 in
theorem n_X11_asked_0.{u, v} {α : Sort u} {β : Sort v} (h : α → β) (R : Int32 → Mem → α) (N : α) (n : Nat) (a0 : Nat) (M : Mem) : h (T_X11_asked_0 R N n a0 M) = T_X11_asked_0 (fun v M => h (R v M)) (h N) n a0 M := by
  simp only [T_X11_asked_0, nat_ite h, nat_gd h, nat_bnd h, nat_bnd2 h]
set_option maxHeartbeats 4000000 in
set_option maxRecDepth 100000 in
theorem w_X11_asked_0 {X : Nat × (Nat → Int32)} {al : Bool} {n : Nat} {Q : Option Value → Mem → Prop} {R : Int32 → Mem → Prop} (hR : ∀ v M, R v M → Q (some (.int v)) M) {a0 : Nat} {M : Mem} (h : T_X11_asked_0 R False n a0 M) : AW X (RX11, cX11_asked, 1, (some .int), false, al, n) 0 0 0 [(0, .ref a0)] [] M Q := by
  unfold T_X11_asked_0 at h
  refine a_aload_n dX11_asked_0 rfl rfl ?_
  refine a_iconst (v := 0) dX11_asked_1 (by decide) ?_
  obtain ⟨⟨ga1, gs2⟩, h⟩ := gd_t h
  refine a_putI dX11_asked_2 (Or.inl ⟨fl_11_163, Or.inl rfl⟩) rfl ga1 gs2 rfl rfl ?_
  refine a_aload_n dX11_asked_5 rfl rfl ?_
  obtain ⟨v3, M4, e5, h⟩ := bnd2_t h
  obtain ⟨n6, en7, e5⟩ := cal_t e5
  refine e_callV (As := []) (st := []) (a := a0) (ci := 11) false dX11_asked_6 mw_X11_proves (Or.inl ⟨rfl, ml_X11_275⟩) im_X11_proves se_X11_proves (by decide) ga1 gs2 rfl (Nat.le_of_ble_eq_true rfl) en7 (s_X11_proves e5) ?_
  exact a_iret dX11_asked_9 rfl (hR _ _ h)
noncomputable def b_X11_asked (n : Nat) (a0 : Nat) (M : Mem) : Option (Int32 × Mem) := T_X11_asked_0 (fun v M => some (v, M)) none n a0 M
set_option maxHeartbeats 4000000 in
set_option maxRecDepth 100000 in
theorem sb_X11_asked {X : Nat × (Nat → Int32)} {al : Bool} {n : Nat} {a0 : Nat} {M : Mem} {v : Int32} {M1 : Mem} (h : b_X11_asked n a0 M = some (v, M1)) : AE yX11_asked cX11_asked 1 (some .int) al n X [.ref a0] M (some (.int v)) M1 := by
  refine AM.of false (by decide +kernel) (by intro h; cases h) (Nat.le_of_ble_eq_true rfl) ?_
  have h2 : T_X11_asked_0 (fun v2 M2 => some (v2, M2) = some (v, M1)) (none = some (v, M1)) n a0 M := (n_X11_asked_0 (fun o => o = some (v, M1)) (fun v M => some (v, M)) none n a0 M).mp h
  have h3 : ((none : Option (Int32 × Mem)) = some (v, M1)) = False := eq_false (by intro q; cases q)
  rw [h3] at h2
  exact w_X11_asked_0 (fun v2 M2 h => by cases h; exact ⟨rfl, rfl⟩) h2

noncomputable abbrev f_X11_asked := b_X11_asked
theorem s_X11_asked {X : Nat × (Nat → Int32)} {al : Bool} {n : Nat} {a0 : Nat} {M : Mem} {v : Int32} {M1 : Mem} (h : f_X11_asked n a0 M = some (v, M1)) : AE yX11_asked cX11_asked 1 (some .int) al n X [.ref a0] M (some (.int v)) M1 := sb_X11_asked h
set_option maxHeartbeats 4000000 in
set_option maxRecDepth 100000 in
noncomputable def T_X11_tellsSlot_0.{u} {α : Sort u} (R : Unit → Mem → α) (N : α) (n : Nat) (a0 : Nat) (x1 : Int32) (x2 : Int32) (x3 : Int32) (M : Mem) : α := gd (fO M a0 11) N (bnd2 (cal n (fun n => f_X11_takes n a0 x1 M)) N (fun _ M3 => gd (fO M3 a0 11) N (bnd2 (cal n (fun n => f_X11_begins0 n a0 x3 M3)) N (fun _ M9 => gd (fO M9 a0 11) N (if 2 ≤ x2 then bnd2 (cal n (fun n => f_X11_asked n a0 (wI M9 a0 43 0))) N (fun v16 M17 => gd (fO M17 a0 11) N (bnd2 (cal n (fun n => f_X11_tellsFormula n a0 v16 M17)) N (fun _ M23 => R () M23))) else if x2 = 1 then bnd2 (cal n (fun n => f_X11_tellsTerm n a0 0 1 (wI M9 a0 43 0))) N (fun _ M32 => R () M32) else bnd2 (cal n (fun n => f_X11_tellsTerm n a0 0 0 (wI M9 a0 43 0))) N (fun _ M28 => R () M28))))))
set_option maxHeartbeats 4000000 in
set_option maxRecDepth 100000 in
theorem n_X11_tellsSlot_0.{u, v} {α : Sort u} {β : Sort v} (h : α → β) (R : Unit → Mem → α) (N : α) (n : Nat) (a0 : Nat) (x1 : Int32) (x2 : Int32) (x3 : Int32) (M : Mem) : h (T_X11_tellsSlot_0 R N n a0 x1 x2 x3 M) = T_X11_tellsSlot_0 (fun v M => h (R v M)) (h N) n a0 x1 x2 x3 M := by
  simp only [T_X11_tellsSlot_0, nat_ite h, nat_gd h, nat_bnd h, nat_bnd2 h]
set_option maxHeartbeats 4000000 in
set_option maxRecDepth 100000 in
theorem w_X11_tellsSlot_0 {X : Nat × (Nat → Int32)} {al : Bool} {n : Nat} {Q : Option Value → Mem → Prop} {R : Unit → Mem → Prop} (hR : ∀ v M, R v M → Q none M) {a0 : Nat} {x1 : Int32} {x2 : Int32} {x3 : Int32} {M : Mem} (h : T_X11_tellsSlot_0 R False n a0 x1 x2 x3 M) : AW X (RX11, cX11_tellsSlot, 4, none, false, al, n) 0 0 0 [(0, .ref a0), (1, .int x1), (2, .int x2), (3, .int x3)] [] M Q := by
  unfold T_X11_tellsSlot_0 at h
  refine a_aload_n dX11_tellsSlot_0 rfl rfl ?_
  refine a_iload_n dX11_tellsSlot_1 rfl rfl ?_
  obtain ⟨⟨ga1, gs2⟩, h⟩ := gd_t h
  obtain ⟨_, M3, e4, h⟩ := bnd2_t h
  obtain ⟨n5, en6, e4⟩ := cal_t e4
  refine e_callV (As := [.int x1]) (st := []) (a := a0) (ci := 11) false dX11_tellsSlot_2 mw_X11_takes (Or.inl ⟨rfl, ml_X11_346⟩) im_X11_takes se_X11_takes (by decide) ga1 gs2 rfl (Nat.le_of_ble_eq_true rfl) en6 (s_X11_takes e4) ?_
  refine a_aload_n dX11_tellsSlot_5 rfl rfl ?_
  refine a_iload_n dX11_tellsSlot_6 rfl rfl ?_
  obtain ⟨⟨ga7, gs8⟩, h⟩ := gd_t h
  obtain ⟨_, M9, e10, h⟩ := bnd2_t h
  obtain ⟨n11, en12, e10⟩ := cal_t e10
  refine e_callV (As := [.int x3]) (st := []) (a := a0) (ci := 11) false dX11_tellsSlot_7 mw_X11_begins0 (Or.inl ⟨rfl, ml_X11_389⟩) im_X11_begins0 se_X11_begins0 (by decide) ga7 gs8 rfl (Nat.le_of_ble_eq_true rfl) en12 (s_X11_begins0 e10) ?_
  refine a_aload_n dX11_tellsSlot_10 rfl rfl ?_
  refine a_iconst (v := 0) dX11_tellsSlot_11 (by decide) ?_
  obtain ⟨⟨ga13, gs14⟩, h⟩ := gd_t h
  refine a_putI dX11_tellsSlot_12 (Or.inl ⟨fl_11_283, Or.inl rfl⟩) rfl ga13 gs14 rfl rfl ?_
  refine a_iload_n dX11_tellsSlot_15 rfl rfl ?_
  refine a_iconst (v := 2) dX11_tellsSlot_16 (by decide) ?_
  refine a_icmp_ge 38 dX11_tellsSlot_17 (by decide) (fun c15 => ?_) (fun c15 => ?_)
  · replace h := ite_t c15 h
    refine a_aload_n dX11_tellsSlot_38 rfl rfl ?_
    refine a_aload_n dX11_tellsSlot_39 rfl rfl ?_
    obtain ⟨v16, M17, e18, h⟩ := bnd2_t h
    obtain ⟨n19, en20, e18⟩ := cal_t e18
    refine e_callV (As := []) (st := [.ref a0]) (a := a0) (ci := 11) false dX11_tellsSlot_40 mw_X11_asked (Or.inl ⟨rfl, ml_X11_331⟩) im_X11_asked se_X11_asked (by decide) ga13 gs14 rfl (Nat.le_of_ble_eq_true rfl) en20 (s_X11_asked e18) ?_
    obtain ⟨⟨ga21, gs22⟩, h⟩ := gd_t h
    obtain ⟨_, M23, e24, h⟩ := bnd2_t h
    obtain ⟨n25, en26, e24⟩ := cal_t e24
    refine e_callV (As := [.int v16]) (st := []) (a := a0) (ci := 11) false dX11_tellsSlot_43 mw_X11_tellsFormula (Or.inl ⟨rfl, ml_X11_376⟩) im_X11_tellsFormula se_X11_tellsFormula (by decide) ga21 gs22 rfl (Nat.le_of_ble_eq_true rfl) en26 (s_X11_tellsFormula e24) ?_
    exact a_vret dX11_tellsSlot_46 rfl (hR _ _ h)
  · replace h := ite_f c15 h
    refine a_aload_n dX11_tellsSlot_20 rfl rfl ?_
    refine a_iconst (v := 0) dX11_tellsSlot_21 (by decide) ?_
    refine a_iload_n dX11_tellsSlot_22 rfl rfl ?_
    refine a_iconst (v := 1) dX11_tellsSlot_23 (by decide) ?_
    refine a_icmp_ne 31 dX11_tellsSlot_24 (by decide) (fun c27 => ?_) (fun c27 => ?_)
    · replace h := ite_f c27 h
      refine a_iconst (v := 0) dX11_tellsSlot_31 (by decide) ?_
      obtain ⟨_, M28, e29, h⟩ := bnd2_t h
      obtain ⟨n30, en31, e29⟩ := cal_t e29
      refine e_callV (As := [.int 0, .int 0]) (st := []) (a := a0) (ci := 11) false dX11_tellsSlot_32 mw_X11_tellsTerm (Or.inl ⟨rfl, ml_X11_385⟩) im_X11_tellsTerm se_X11_tellsTerm (by decide) ga13 gs14 rfl (Nat.le_of_ble_eq_true rfl) en31 (s_X11_tellsTerm e29) ?_
      refine a_goto 46 dX11_tellsSlot_35 (by decide) ?_
      exact a_vret dX11_tellsSlot_46 rfl (hR _ _ h)
    · replace h := ite_t c27 h
      refine a_iconst (v := 1) dX11_tellsSlot_27 (by decide) ?_
      refine a_goto 32 dX11_tellsSlot_28 (by decide) ?_
      obtain ⟨_, M32, e33, h⟩ := bnd2_t h
      obtain ⟨n34, en35, e33⟩ := cal_t e33
      refine e_callV (As := [.int 0, .int 1]) (st := []) (a := a0) (ci := 11) false dX11_tellsSlot_32 mw_X11_tellsTerm (Or.inl ⟨rfl, ml_X11_385⟩) im_X11_tellsTerm se_X11_tellsTerm (by decide) ga13 gs14 rfl (Nat.le_of_ble_eq_true rfl) en35 (s_X11_tellsTerm e33) ?_
      refine a_goto 46 dX11_tellsSlot_35 (by decide) ?_
      exact a_vret dX11_tellsSlot_46 rfl (hR _ _ h)
noncomputable def b_X11_tellsSlot (n : Nat) (a0 : Nat) (x1 : Int32) (x2 : Int32) (x3 : Int32) (M : Mem) : Option (Unit × Mem) := T_X11_tellsSlot_0 (fun v M => some (v, M)) none n a0 x1 x2 x3 M
set_option maxHeartbeats 4000000 in
set_option maxRecDepth 100000 in
theorem sb_X11_tellsSlot {X : Nat × (Nat → Int32)} {al : Bool} {n : Nat} {a0 : Nat} {x1 : Int32} {x2 : Int32} {x3 : Int32} {M : Mem} {v : Unit} {M1 : Mem} (h : b_X11_tellsSlot n a0 x1 x2 x3 M = some (v, M1)) : AE yX11_tellsSlot cX11_tellsSlot 4 none al n X [.ref a0, .int x1, .int x2, .int x3] M none M1 := by
  refine AM.of false (by decide +kernel) (by intro h; cases h) (Nat.le_of_ble_eq_true rfl) ?_
  have h2 : T_X11_tellsSlot_0 (fun v2 M2 => some (v2, M2) = some (v, M1)) (none = some (v, M1)) n a0 x1 x2 x3 M := (n_X11_tellsSlot_0 (fun o => o = some (v, M1)) (fun v M => some (v, M)) none n a0 x1 x2 x3 M).mp h
  have h3 : ((none : Option (Unit × Mem)) = some (v, M1)) = False := eq_false (by intro q; cases q)
  rw [h3] at h2
  exact w_X11_tellsSlot_0 (fun v2 M2 h => by cases h; exact ⟨rfl, rfl⟩) h2

noncomputable abbrev f_X11_tellsSlot := b_X11_tellsSlot
theorem s_X11_tellsSlot {X : Nat × (Nat → Int32)} {al : Bool} {n : Nat} {a0 : Nat} {x1 : Int32} {x2 : Int32} {x3 : Int32} {M : Mem} {v : Unit} {M1 : Mem} (h : f_X11_tellsSlot n a0 x1 x2 x3 M = some (v, M1)) : AE yX11_tellsSlot cX11_tellsSlot 4 none al n X [.ref a0, .int x1, .int x2, .int x3] M none M1 := sb_X11_tellsSlot h
set_option maxHeartbeats 4000000 in
set_option maxRecDepth 100000 in
noncomputable def T_X11_spell_0.{u} {α : Sort u} (R : Int32 → Mem → α) (N : α) (n : Nat) (a0 : Nat) (x1 : Int32) (x2 : Int32) (x3 : Int32) (M : Mem) : α := gd (fO M a0 11) N (bnd2 (cal n (fun n => f_X11_isSlot n x1 (wI M a0 0 0))) N (fun v3 M4 => if v3 = 0 then R (-2) M4 else bnd2 (cal n (fun n => f_X11_isIn n (Int32.toInt64 x2) 0 (2) M4)) N (fun v9 M10 => if v9 = 0 then R (-2) M10 else if 0 ≤ x3 then gd (fO M10 a0 11) N (bnd2 (cal n (fun n => f_X11_isEmpty n a0 x1 M10)) N (fun v18 M19 => if v18 = 0 then gd (fO M19 a0 11) N (bnd2 (cal n (fun n => f_X11_tellsSlot n a0 x1 x2 x3 M19)) N (fun _ M26 => gd (fO M26 a0 11) N (R (M26.2.2.1 a0 50) M26))) else R (-5) M19)) else R (-3) M10)))
set_option maxHeartbeats 4000000 in
set_option maxRecDepth 100000 in
theorem n_X11_spell_0.{u, v} {α : Sort u} {β : Sort v} (h : α → β) (R : Int32 → Mem → α) (N : α) (n : Nat) (a0 : Nat) (x1 : Int32) (x2 : Int32) (x3 : Int32) (M : Mem) : h (T_X11_spell_0 R N n a0 x1 x2 x3 M) = T_X11_spell_0 (fun v M => h (R v M)) (h N) n a0 x1 x2 x3 M := by
  simp only [T_X11_spell_0, nat_ite h, nat_gd h, nat_bnd h, nat_bnd2 h]
set_option maxHeartbeats 4000000 in
set_option maxRecDepth 100000 in
theorem w_X11_spell_0 {X : Nat × (Nat → Int32)} {al : Bool} {n : Nat} {Q : Option Value → Mem → Prop} {R : Int32 → Mem → Prop} (hR : ∀ v M, R v M → Q (some (.int v)) M) {a0 : Nat} {x1 : Int32} {x2 : Int32} {x3 : Int32} {M : Mem} (h : T_X11_spell_0 R False n a0 x1 x2 x3 M) : AW X (RX11, cX11_spell, 4, (some .int), false, al, n) 0 0 0 [(0, .ref a0), (1, .int x1), (2, .int x2), (3, .int x3)] [] M Q := by
  unfold T_X11_spell_0 at h
  refine a_aload_n dX11_spell_0 rfl rfl ?_
  refine a_iconst (v := 0) dX11_spell_1 (by decide) ?_
  obtain ⟨⟨ga1, gs2⟩, h⟩ := gd_t h
  refine a_putI dX11_spell_2 (Or.inl ⟨fl_11_1, Or.inl rfl⟩) rfl ga1 gs2 rfl rfl ?_
  refine a_iload_n dX11_spell_5 rfl rfl ?_
  obtain ⟨v3, M4, e5, h⟩ := bnd2_t h
  obtain ⟨n6, en7, e5⟩ := cal_t e5
  refine e_callS (As := [.int x1]) (st := []) false dX11_spell_6 mw_X11_isSlot (Or.inl ⟨rfl, ml_X11_271⟩) sm_X11_isSlot rfl (Nat.le_of_ble_eq_true rfl) en7 (s_X11_isSlot e5) ?_
  refine a_if_eq 24 dX11_spell_9 (by decide) (fun c8 => ?_) (fun c8 => ?_)
  · replace h := ite_t c8 h
    refine a_bipush (v := -2) dX11_spell_24 (by decide) ?_
    exact a_iret dX11_spell_26 rfl (hR _ _ h)
  · replace h := ite_f c8 h
    refine a_iload_n dX11_spell_12 rfl rfl ?_
    refine a_i2l dX11_spell_13 ?_
    refine a_lconst (v := 0) dX11_spell_14 (by decide) ?_
    refine a_ldc2 dX11_spell_15 co_X11_392 ?_
    obtain ⟨v9, M10, e11, h⟩ := bnd2_t h
    obtain ⟨n12, en13, e11⟩ := cal_t e11
    refine e_callS (As := [.long (Int32.toInt64 x2), .long 0, .long (2)]) (st := []) false dX11_spell_18 mw_X11_isIn (Or.inl ⟨rfl, ml_X11_180⟩) sm_X11_isIn rfl (Nat.le_of_ble_eq_true rfl) en13 (s_X11_isIn e11) ?_
    refine a_if_ne 27 dX11_spell_21 (by decide) (fun c14 => ?_) (fun c14 => ?_)
    · replace h := ite_f c14 h
      refine a_iload_n dX11_spell_27 rfl rfl ?_
      refine a_if_ge 34 dX11_spell_28 (by decide) (fun c15 => ?_) (fun c15 => ?_)
      · replace h := ite_t c15 h
        refine a_aload_n dX11_spell_34 rfl rfl ?_
        refine a_iload_n dX11_spell_35 rfl rfl ?_
        obtain ⟨⟨ga16, gs17⟩, h⟩ := gd_t h
        obtain ⟨v18, M19, e20, h⟩ := bnd2_t h
        obtain ⟨n21, en22, e20⟩ := cal_t e20
        refine e_callV (As := [.int x1]) (st := []) (a := a0) (ci := 11) false dX11_spell_36 mw_X11_isEmpty (Or.inl ⟨rfl, ml_X11_343⟩) im_X11_isEmpty se_X11_isEmpty (by decide) ga16 gs17 rfl (Nat.le_of_ble_eq_true rfl) en22 (s_X11_isEmpty e20) ?_
        refine a_if_eq 45 dX11_spell_39 (by decide) (fun c23 => ?_) (fun c23 => ?_)
        · replace h := ite_t c23 h
          refine a_aload_n dX11_spell_45 rfl rfl ?_
          refine a_iload_n dX11_spell_46 rfl rfl ?_
          refine a_iload_n dX11_spell_47 rfl rfl ?_
          refine a_iload_n dX11_spell_48 rfl rfl ?_
          obtain ⟨⟨ga24, gs25⟩, h⟩ := gd_t h
          obtain ⟨_, M26, e27, h⟩ := bnd2_t h
          obtain ⟨n28, en29, e27⟩ := cal_t e27
          refine e_callV (As := [.int x1, .int x2, .int x3]) (st := []) (a := a0) (ci := 11) false dX11_spell_49 mw_X11_tellsSlot (Or.inl ⟨rfl, ml_X11_394⟩) im_X11_tellsSlot se_X11_tellsSlot (by decide) ga24 gs25 rfl (Nat.le_of_ble_eq_true rfl) en29 (s_X11_tellsSlot e27) ?_
          refine a_aload_n dX11_spell_52 rfl rfl ?_
          obtain ⟨⟨ga30, gs31⟩, h⟩ := gd_t h
          refine a_get (v := .int (M26.2.2.1 a0 50)) dX11_spell_53 fl_11_367 ga30 gs31 rfl ?_
          exact a_iret dX11_spell_56 rfl (hR _ _ h)
        · replace h := ite_f c23 h
          refine a_bipush (v := -5) dX11_spell_42 (by decide) ?_
          exact a_iret dX11_spell_44 rfl (hR _ _ h)
      · replace h := ite_f c15 h
        refine a_bipush (v := -3) dX11_spell_31 (by decide) ?_
        exact a_iret dX11_spell_33 rfl (hR _ _ h)
    · replace h := ite_t c14 h
      refine a_bipush (v := -2) dX11_spell_24 (by decide) ?_
      exact a_iret dX11_spell_26 rfl (hR _ _ h)
noncomputable def b_X11_spell (n : Nat) (a0 : Nat) (x1 : Int32) (x2 : Int32) (x3 : Int32) (M : Mem) : Option (Int32 × Mem) := T_X11_spell_0 (fun v M => some (v, M)) none n a0 x1 x2 x3 M
set_option maxHeartbeats 4000000 in
set_option maxRecDepth 100000 in
theorem sb_X11_spell {X : Nat × (Nat → Int32)} {al : Bool} {n : Nat} {a0 : Nat} {x1 : Int32} {x2 : Int32} {x3 : Int32} {M : Mem} {v : Int32} {M1 : Mem} (h : b_X11_spell n a0 x1 x2 x3 M = some (v, M1)) : AE yX11_spell cX11_spell 4 (some .int) al n X [.ref a0, .int x1, .int x2, .int x3] M (some (.int v)) M1 := by
  refine AM.of false (by decide +kernel) (by intro h; cases h) (Nat.le_of_ble_eq_true rfl) ?_
  have h2 : T_X11_spell_0 (fun v2 M2 => some (v2, M2) = some (v, M1)) (none = some (v, M1)) n a0 x1 x2 x3 M := (n_X11_spell_0 (fun o => o = some (v, M1)) (fun v M => some (v, M)) none n a0 x1 x2 x3 M).mp h
  have h3 : ((none : Option (Int32 × Mem)) = some (v, M1)) = False := eq_false (by intro q; cases q)
  rw [h3] at h2
  exact w_X11_spell_0 (fun v2 M2 h => by cases h; exact ⟨rfl, rfl⟩) h2

noncomputable abbrev f_X11_spell := b_X11_spell
theorem s_X11_spell {X : Nat × (Nat → Int32)} {al : Bool} {n : Nat} {a0 : Nat} {x1 : Int32} {x2 : Int32} {x3 : Int32} {M : Mem} {v : Int32} {M1 : Mem} (h : f_X11_spell n a0 x1 x2 x3 M = some (v, M1)) : AE yX11_spell cX11_spell 4 (some .int) al n X [.ref a0, .int x1, .int x2, .int x3] M (some (.int v)) M1 := sb_X11_spell h
set_option maxHeartbeats 4000000 in
set_option maxRecDepth 100000 in
noncomputable def T_X10_length_0.{u} {α : Sort u} (R : Int32 → Mem → α) (N : α) (n : Nat) (a0 : Nat) (x1 : Int32) (x2 : Int32) (M : Mem) : α := bnd2 (cal n (fun n => f_X10_noSlot n x1 M)) N (fun v1 M2 => if v1 = 0 then if x2 < 0 then R (-2) M2 else if x2 ≤ 2 then gd (fO M2 a0 10) N (bnd (M2.2.2.2.2 a0 5) N (fun r11 => gd (fA M2 r11 4 x1) N (bnd (M2.2.2.2.2 r11 (x1.toNatClampNeg)) N (fun r17 => gd (fO M2 r17 9) N (if (M2.2.2.1 r17 2) = 0 then R (-5) M2 else bnd2 (cal n (fun n => f_X10_spellSlot n a0 x1 x2 (-1) M2)) N (fun _ M22 => gd (fO M22 a0 10) N (bnd (M22.2.2.2.2 a0 9) N (fun r28 => gd (fO M22 r28 8) N (gd (1 ≤ n) N (R (Int64.toInt32 (if (2147483647) < (M22.2.2.2.1 r28 3) then (2147483647) else (M22.2.2.2.1 r28 3))) M22)))))))))) else R (-2) M2 else R (-2) M2)
set_option maxHeartbeats 4000000 in
set_option maxRecDepth 100000 in
theorem n_X10_length_0.{u, v} {α : Sort u} {β : Sort v} (h : α → β) (R : Int32 → Mem → α) (N : α) (n : Nat) (a0 : Nat) (x1 : Int32) (x2 : Int32) (M : Mem) : h (T_X10_length_0 R N n a0 x1 x2 M) = T_X10_length_0 (fun v M => h (R v M)) (h N) n a0 x1 x2 M := by
  simp only [T_X10_length_0, nat_ite h, nat_gd h, nat_bnd h, nat_bnd2 h]
set_option maxHeartbeats 4000000 in
set_option maxRecDepth 100000 in
theorem w_X10_length_0 {X : Nat × (Nat → Int32)} {al : Bool} {n : Nat} {Q : Option Value → Mem → Prop} {R : Int32 → Mem → Prop} (hR : ∀ v M, R v M → Q (some (.int v)) M) {a0 : Nat} {x1 : Int32} {x2 : Int32} {M : Mem} (h : T_X10_length_0 R False n a0 x1 x2 M) : AW X (RX10, cX10_length, 3, (some .int), false, al, n) 0 0 0 [(0, .ref a0), (1, .int x1), (2, .int x2)] [] M Q := by
  unfold T_X10_length_0 at h
  refine a_iload_n dX10_length_0 rfl rfl ?_
  obtain ⟨v1, M2, e3, h⟩ := bnd2_t h
  obtain ⟨n4, en5, e3⟩ := cal_t e3
  refine e_callS (As := [.int x1]) (st := []) false dX10_length_1 mw_X10_noSlot (Or.inl ⟨rfl, ml_X10_151⟩) sm_X10_noSlot rfl (Nat.le_of_ble_eq_true rfl) en5 (s_X10_noSlot e3) ?_
  refine a_if_ne 16 dX10_length_4 (by decide) (fun c6 => ?_) (fun c6 => ?_)
  · replace h := ite_f c6 h
    refine a_bipush (v := -2) dX10_length_16 (by decide) ?_
    exact a_iret dX10_length_18 rfl (hR _ _ h)
  · replace h := ite_t c6 h
    refine a_iload_n dX10_length_7 rfl rfl ?_
    refine a_if_lt 16 dX10_length_8 (by decide) (fun c7 => ?_) (fun c7 => ?_)
    · replace h := ite_t c7 h
      refine a_bipush (v := -2) dX10_length_16 (by decide) ?_
      exact a_iret dX10_length_18 rfl (hR _ _ h)
    · replace h := ite_f c7 h
      refine a_iload_n dX10_length_11 rfl rfl ?_
      refine a_iconst (v := 2) dX10_length_12 (by decide) ?_
      refine a_icmp_le 19 dX10_length_13 (by decide) (fun c8 => ?_) (fun c8 => ?_)
      · replace h := ite_t c8 h
        refine a_aload_n dX10_length_19 rfl rfl ?_
        obtain ⟨⟨ga9, gs10⟩, h⟩ := gd_t h
        obtain ⟨r11, e12, h⟩ := bnd_t h
        refine a_get (v := .ref r11) dX10_length_20 fl_10_38 ga9 gs10 (gvR e12 rfl) ?_
        refine a_iload_n dX10_length_23 rfl rfl ?_
        obtain ⟨⟨ga13, gn14, gs15, gi16⟩, h⟩ := gd_t h
        obtain ⟨r17, e18, h⟩ := bnd_t h
        refine a_aaload dX10_length_24 ga13 gs15 gi16 e18 ?_
        obtain ⟨⟨ga19, gs20⟩, h⟩ := gd_t h
        refine a_getN (v := .int (M2.2.2.1 r17 2)) dX10_length_25 fn_10_171 ga19 gs20 rfl ?_
        refine a_if_ne 34 dX10_length_28 (by decide) (fun c21 => ?_) (fun c21 => ?_)
        · replace h := ite_f c21 h
          refine a_aload_n dX10_length_34 rfl rfl ?_
          refine a_iload_n dX10_length_35 rfl rfl ?_
          refine a_iload_n dX10_length_36 rfl rfl ?_
          refine a_iconst (v := -1) dX10_length_37 (by decide) ?_
          obtain ⟨_, M22, e23, h⟩ := bnd2_t h
          obtain ⟨n24, en25, e23⟩ := cal_t e23
          refine e_callV (As := [.int x1, .int x2, .int (-1)]) (st := []) (a := a0) (ci := 10) false dX10_length_38 mw_X10_spellSlot (Or.inl ⟨rfl, ml_X10_197⟩) im_X10_spellSlot se_X10_spellSlot (by decide) ga9 gs10 rfl (Nat.le_of_ble_eq_true rfl) en25 (s_X10_spellSlot e23) ?_
          refine a_aload_n dX10_length_41 rfl rfl ?_
          obtain ⟨⟨ga26, gs27⟩, h⟩ := gd_t h
          obtain ⟨r28, e29, h⟩ := bnd_t h
          refine a_get (v := .ref r28) dX10_length_42 fl_10_68 ga26 gs27 (gvR e29 rfl) ?_
          obtain ⟨⟨ga30, gs31⟩, h⟩ := gd_t h
          refine a_getN (v := .long (M22.2.2.2.1 r28 3)) dX10_length_45 fn_10_204 ga30 gs31 rfl ?_
          refine a_ldc2 dX10_length_48 co_X10_208 ?_
          obtain ⟨gf32, h⟩ := gd_t h
          refine a_mminL dX10_length_51 mminL_l gf32 (Nat.le_of_ble_eq_true rfl) ?_
          refine a_l2i dX10_length_54 ?_
          exact a_iret dX10_length_55 rfl (hR _ _ h)
        · replace h := ite_t c21 h
          refine a_bipush (v := -5) dX10_length_31 (by decide) ?_
          exact a_iret dX10_length_33 rfl (hR _ _ h)
      · replace h := ite_f c8 h
        refine a_bipush (v := -2) dX10_length_16 (by decide) ?_
        exact a_iret dX10_length_18 rfl (hR _ _ h)
noncomputable def b_X10_length (n : Nat) (a0 : Nat) (x1 : Int32) (x2 : Int32) (M : Mem) : Option (Int32 × Mem) := T_X10_length_0 (fun v M => some (v, M)) none n a0 x1 x2 M
set_option maxHeartbeats 4000000 in
set_option maxRecDepth 100000 in
theorem sb_X10_length {X : Nat × (Nat → Int32)} {al : Bool} {n : Nat} {a0 : Nat} {x1 : Int32} {x2 : Int32} {M : Mem} {v : Int32} {M1 : Mem} (h : b_X10_length n a0 x1 x2 M = some (v, M1)) : AE yX10_length cX10_length 3 (some .int) al n X [.ref a0, .int x1, .int x2] M (some (.int v)) M1 := by
  refine AM.of false (by decide +kernel) (by intro h; cases h) (Nat.le_of_ble_eq_true rfl) ?_
  have h2 : T_X10_length_0 (fun v2 M2 => some (v2, M2) = some (v, M1)) (none = some (v, M1)) n a0 x1 x2 M := (n_X10_length_0 (fun o => o = some (v, M1)) (fun v M => some (v, M)) none n a0 x1 x2 M).mp h
  have h3 : ((none : Option (Int32 × Mem)) = some (v, M1)) = False := eq_false (by intro q; cases q)
  rw [h3] at h2
  exact w_X10_length_0 (fun v2 M2 h => by cases h; exact ⟨rfl, rfl⟩) h2

noncomputable abbrev f_X10_length := b_X10_length
theorem s_X10_length {X : Nat × (Nat → Int32)} {al : Bool} {n : Nat} {a0 : Nat} {x1 : Int32} {x2 : Int32} {M : Mem} {v : Int32} {M1 : Mem} (h : f_X10_length n a0 x1 x2 M = some (v, M1)) : AE yX10_length cX10_length 3 (some .int) al n X [.ref a0, .int x1, .int x2] M (some (.int v)) M1 := sb_X10_length h
set_option maxHeartbeats 4000000 in
set_option maxRecDepth 100000 in
noncomputable def T_X11_length_0.{u} {α : Sort u} (R : Int32 → Mem → α) (N : α) (n : Nat) (a0 : Nat) (x1 : Int32) (x2 : Int32) (M : Mem) : α := gd (fO M a0 11) N (bnd2 (cal n (fun n => f_X11_isSlot n x1 (wI M a0 0 0))) N (fun v3 M4 => if v3 = 0 then R (-2) M4 else bnd2 (cal n (fun n => f_X11_isIn n (Int32.toInt64 x2) 0 (2) M4)) N (fun v9 M10 => if v9 = 0 then R (-2) M10 else gd (fO M10 a0 11) N (bnd2 (cal n (fun n => f_X11_isEmpty n a0 x1 M10)) N (fun v17 M18 => if v17 = 0 then gd (fO M18 a0 11) N (bnd2 (cal n (fun n => f_X11_tellsSlot n a0 x1 x2 (-1) M18)) N (fun _ M25 => gd (fO M25 a0 11) N (R (M25.2.2.1 a0 48) M25))) else R (-5) M18)))))
set_option maxHeartbeats 4000000 in
set_option maxRecDepth 100000 in
theorem n_X11_length_0.{u, v} {α : Sort u} {β : Sort v} (h : α → β) (R : Int32 → Mem → α) (N : α) (n : Nat) (a0 : Nat) (x1 : Int32) (x2 : Int32) (M : Mem) : h (T_X11_length_0 R N n a0 x1 x2 M) = T_X11_length_0 (fun v M => h (R v M)) (h N) n a0 x1 x2 M := by
  simp only [T_X11_length_0, nat_ite h, nat_gd h, nat_bnd h, nat_bnd2 h]
set_option maxHeartbeats 4000000 in
set_option maxRecDepth 100000 in
theorem w_X11_length_0 {X : Nat × (Nat → Int32)} {al : Bool} {n : Nat} {Q : Option Value → Mem → Prop} {R : Int32 → Mem → Prop} (hR : ∀ v M, R v M → Q (some (.int v)) M) {a0 : Nat} {x1 : Int32} {x2 : Int32} {M : Mem} (h : T_X11_length_0 R False n a0 x1 x2 M) : AW X (RX11, cX11_length, 3, (some .int), false, al, n) 0 0 0 [(0, .ref a0), (1, .int x1), (2, .int x2)] [] M Q := by
  unfold T_X11_length_0 at h
  refine a_aload_n dX11_length_0 rfl rfl ?_
  refine a_iconst (v := 0) dX11_length_1 (by decide) ?_
  obtain ⟨⟨ga1, gs2⟩, h⟩ := gd_t h
  refine a_putI dX11_length_2 (Or.inl ⟨fl_11_1, Or.inl rfl⟩) rfl ga1 gs2 rfl rfl ?_
  refine a_iload_n dX11_length_5 rfl rfl ?_
  obtain ⟨v3, M4, e5, h⟩ := bnd2_t h
  obtain ⟨n6, en7, e5⟩ := cal_t e5
  refine e_callS (As := [.int x1]) (st := []) false dX11_length_6 mw_X11_isSlot (Or.inl ⟨rfl, ml_X11_271⟩) sm_X11_isSlot rfl (Nat.le_of_ble_eq_true rfl) en7 (s_X11_isSlot e5) ?_
  refine a_if_eq 24 dX11_length_9 (by decide) (fun c8 => ?_) (fun c8 => ?_)
  · replace h := ite_t c8 h
    refine a_bipush (v := -2) dX11_length_24 (by decide) ?_
    exact a_iret dX11_length_26 rfl (hR _ _ h)
  · replace h := ite_f c8 h
    refine a_iload_n dX11_length_12 rfl rfl ?_
    refine a_i2l dX11_length_13 ?_
    refine a_lconst (v := 0) dX11_length_14 (by decide) ?_
    refine a_ldc2 dX11_length_15 co_X11_392 ?_
    obtain ⟨v9, M10, e11, h⟩ := bnd2_t h
    obtain ⟨n12, en13, e11⟩ := cal_t e11
    refine e_callS (As := [.long (Int32.toInt64 x2), .long 0, .long (2)]) (st := []) false dX11_length_18 mw_X11_isIn (Or.inl ⟨rfl, ml_X11_180⟩) sm_X11_isIn rfl (Nat.le_of_ble_eq_true rfl) en13 (s_X11_isIn e11) ?_
    refine a_if_ne 27 dX11_length_21 (by decide) (fun c14 => ?_) (fun c14 => ?_)
    · replace h := ite_f c14 h
      refine a_aload_n dX11_length_27 rfl rfl ?_
      refine a_iload_n dX11_length_28 rfl rfl ?_
      obtain ⟨⟨ga15, gs16⟩, h⟩ := gd_t h
      obtain ⟨v17, M18, e19, h⟩ := bnd2_t h
      obtain ⟨n20, en21, e19⟩ := cal_t e19
      refine e_callV (As := [.int x1]) (st := []) (a := a0) (ci := 11) false dX11_length_29 mw_X11_isEmpty (Or.inl ⟨rfl, ml_X11_343⟩) im_X11_isEmpty se_X11_isEmpty (by decide) ga15 gs16 rfl (Nat.le_of_ble_eq_true rfl) en21 (s_X11_isEmpty e19) ?_
      refine a_if_eq 38 dX11_length_32 (by decide) (fun c22 => ?_) (fun c22 => ?_)
      · replace h := ite_t c22 h
        refine a_aload_n dX11_length_38 rfl rfl ?_
        refine a_iload_n dX11_length_39 rfl rfl ?_
        refine a_iload_n dX11_length_40 rfl rfl ?_
        refine a_iconst (v := -1) dX11_length_41 (by decide) ?_
        obtain ⟨⟨ga23, gs24⟩, h⟩ := gd_t h
        obtain ⟨_, M25, e26, h⟩ := bnd2_t h
        obtain ⟨n27, en28, e26⟩ := cal_t e26
        refine e_callV (As := [.int x1, .int x2, .int (-1)]) (st := []) (a := a0) (ci := 11) false dX11_length_42 mw_X11_tellsSlot (Or.inl ⟨rfl, ml_X11_394⟩) im_X11_tellsSlot se_X11_tellsSlot (by decide) ga23 gs24 rfl (Nat.le_of_ble_eq_true rfl) en28 (s_X11_tellsSlot e26) ?_
        refine a_aload_n dX11_length_45 rfl rfl ?_
        obtain ⟨⟨ga29, gs30⟩, h⟩ := gd_t h
        refine a_get (v := .int (M25.2.2.1 a0 48)) dX11_length_46 fl_11_361 ga29 gs30 rfl ?_
        exact a_iret dX11_length_49 rfl (hR _ _ h)
      · replace h := ite_f c22 h
        refine a_bipush (v := -5) dX11_length_35 (by decide) ?_
        exact a_iret dX11_length_37 rfl (hR _ _ h)
    · replace h := ite_t c14 h
      refine a_bipush (v := -2) dX11_length_24 (by decide) ?_
      exact a_iret dX11_length_26 rfl (hR _ _ h)
noncomputable def b_X11_length (n : Nat) (a0 : Nat) (x1 : Int32) (x2 : Int32) (M : Mem) : Option (Int32 × Mem) := T_X11_length_0 (fun v M => some (v, M)) none n a0 x1 x2 M
set_option maxHeartbeats 4000000 in
set_option maxRecDepth 100000 in
theorem sb_X11_length {X : Nat × (Nat → Int32)} {al : Bool} {n : Nat} {a0 : Nat} {x1 : Int32} {x2 : Int32} {M : Mem} {v : Int32} {M1 : Mem} (h : b_X11_length n a0 x1 x2 M = some (v, M1)) : AE yX11_length cX11_length 3 (some .int) al n X [.ref a0, .int x1, .int x2] M (some (.int v)) M1 := by
  refine AM.of false (by decide +kernel) (by intro h; cases h) (Nat.le_of_ble_eq_true rfl) ?_
  have h2 : T_X11_length_0 (fun v2 M2 => some (v2, M2) = some (v, M1)) (none = some (v, M1)) n a0 x1 x2 M := (n_X11_length_0 (fun o => o = some (v, M1)) (fun v M => some (v, M)) none n a0 x1 x2 M).mp h
  have h3 : ((none : Option (Int32 × Mem)) = some (v, M1)) = False := eq_false (by intro q; cases q)
  rw [h3] at h2
  exact w_X11_length_0 (fun v2 M2 h => by cases h; exact ⟨rfl, rfl⟩) h2

noncomputable abbrev f_X11_length := b_X11_length
theorem s_X11_length {X : Nat × (Nat → Int32)} {al : Bool} {n : Nat} {a0 : Nat} {x1 : Int32} {x2 : Int32} {M : Mem} {v : Int32} {M1 : Mem} (h : f_X11_length n a0 x1 x2 M = some (v, M1)) : AE yX11_length cX11_length 3 (some .int) al n X [.ref a0, .int x1, .int x2] M (some (.int v)) M1 := sb_X11_length h
def ix_X3_height (c : Nat) : List Nat := if c = 0 then [0] else if c = 4 then [0, 1, 2] else []
def PW_X3_height (X : Nat × (Nat → Int32)) (al : Bool) (n : Nat) (Q : Option Value → Mem → Prop) (c : Nat) (l : List Value) (M : Mem) : Prop := AW X (RX3, cX3_height, 3, (some .int), false, al, n) 0 0 c (List.zip (ix_X3_height c) l) (l.drop (ix_X3_height c).length) M Q
set_option maxHeartbeats 4000000 in
set_option maxRecDepth 100000 in
noncomputable def T_X3_height_0.{u} {α : Sort u} (J : Nat → List Value → Mem → α) (R : Int32 → Mem → α) (N : α) (n : Nat) (a0 : Nat) (M : Mem) : α := J 4 [.ref a0, .int 0, .int 0] M
set_option maxHeartbeats 4000000 in
set_option maxRecDepth 100000 in
theorem n_X3_height_0.{u, v} {α : Sort u} {β : Sort v} (h : α → β) (J : Nat → List Value → Mem → α) (R : Int32 → Mem → α) (N : α) (n : Nat) (a0 : Nat) (M : Mem) : h (T_X3_height_0 J R N n a0 M) = T_X3_height_0 (fun c l M => h (J c l M)) (fun v M => h (R v M)) (h N) n a0 M := by
  simp only [T_X3_height_0, nat_ite h, nat_gd h, nat_bnd h, nat_bnd2 h]
set_option maxHeartbeats 4000000 in
set_option maxRecDepth 100000 in
theorem w_X3_height_0 {X : Nat × (Nat → Int32)} {al : Bool} {n : Nat} {Q : Option Value → Mem → Prop} {J : Nat → List Value → Mem → Prop} (hJ : ∀ c l M, J c l M → PW_X3_height X al n Q c l M) {R : Int32 → Mem → Prop} (hR : ∀ v M, R v M → Q (some (.int v)) M) {a0 : Nat} {M : Mem} (h : T_X3_height_0 J R False n a0 M) : AW X (RX3, cX3_height, 3, (some .int), false, al, n) 0 0 0 [(0, .ref a0)] [] M Q := by
  unfold T_X3_height_0 at h
  refine a_iconst (v := 0) dX3_height_0 (by decide) ?_
  refine a_istore_n dX3_height_1 rfl (Nat.le_of_ble_eq_true rfl) (lv2 := [(1, .int 0), (0, .ref a0)]) rfl ?_
  refine a_iconst (v := 0) dX3_height_2 (by decide) ?_
  refine a_istore_n dX3_height_3 rfl (Nat.le_of_ble_eq_true rfl) (lv2 := [(2, .int 0), (1, .int 0), (0, .ref a0)]) rfl ?_
  exact a_lv (lv2 := [(0, .ref a0), (1, .int 0), (2, .int 0)]) (fa_cons rfl (fa_cons rfl (fa_cons rfl fa_nil))) (hJ _ _ _ h)
set_option maxHeartbeats 4000000 in
set_option maxRecDepth 100000 in
noncomputable def T_X3_height_4.{u} {α : Sort u} (J : Nat → List Value → Mem → α) (R : Int32 → Mem → α) (N : α) (n : Nat) (a0 : Nat) (x1 : Int32) (x2 : Int32) (M : Mem) : α := gd (fO M a0 3) N (bnd (M.2.2.2.2 a0 2) N (fun r3 => gd (fO M r3 9) N (if (M.2.2.1 r3 2) ≤ x2 then R x1 M else bnd2 (cal n (fun n => f_X3_nestOf n a0 x2 M)) N (fun v8 M9 => gd (1 ≤ n) N (J 4 [.ref a0, .int (if x1 < v8 then v8 else x1), .int (x2 + 1)] M9)))))
set_option maxHeartbeats 4000000 in
set_option maxRecDepth 100000 in
theorem n_X3_height_4.{u, v} {α : Sort u} {β : Sort v} (h : α → β) (J : Nat → List Value → Mem → α) (R : Int32 → Mem → α) (N : α) (n : Nat) (a0 : Nat) (x1 : Int32) (x2 : Int32) (M : Mem) : h (T_X3_height_4 J R N n a0 x1 x2 M) = T_X3_height_4 (fun c l M => h (J c l M)) (fun v M => h (R v M)) (h N) n a0 x1 x2 M := by
  simp only [T_X3_height_4, nat_ite h, nat_gd h, nat_bnd h, nat_bnd2 h]
set_option maxHeartbeats 4000000 in
set_option maxRecDepth 100000 in
theorem w_X3_height_4 {X : Nat × (Nat → Int32)} {al : Bool} {n : Nat} {Q : Option Value → Mem → Prop} {J : Nat → List Value → Mem → Prop} (hJ : ∀ c l M, J c l M → PW_X3_height X al n Q c l M) {R : Int32 → Mem → Prop} (hR : ∀ v M, R v M → Q (some (.int v)) M) {a0 : Nat} {x1 : Int32} {x2 : Int32} {M : Mem} (h : T_X3_height_4 J R False n a0 x1 x2 M) : AW X (RX3, cX3_height, 3, (some .int), false, al, n) 0 0 4 [(0, .ref a0), (1, .int x1), (2, .int x2)] [] M Q := by
  unfold T_X3_height_4 at h
  refine a_iload_n dX3_height_4 rfl rfl ?_
  refine a_aload_n dX3_height_5 rfl rfl ?_
  obtain ⟨⟨ga1, gs2⟩, h⟩ := gd_t h
  obtain ⟨r3, e4, h⟩ := bnd_t h
  refine a_get (v := .ref r3) dX3_height_6 fl_3_50 ga1 gs2 (gvR e4 rfl) ?_
  obtain ⟨⟨ga5, gs6⟩, h⟩ := gd_t h
  refine a_getN (v := .int (M.2.2.1 r3 2)) dX3_height_9 fn_3_54 ga5 gs6 rfl ?_
  refine a_icmp_ge 31 dX3_height_12 (by decide) (fun c7 => ?_) (fun c7 => ?_)
  · replace h := ite_t c7 h
    refine a_iload_n dX3_height_31 rfl rfl ?_
    exact a_iret dX3_height_32 rfl (hR _ _ h)
  · replace h := ite_f c7 h
    refine a_iload_n dX3_height_15 rfl rfl ?_
    refine a_aload_n dX3_height_16 rfl rfl ?_
    refine a_iload_n dX3_height_17 rfl rfl ?_
    obtain ⟨v8, M9, e10, h⟩ := bnd2_t h
    obtain ⟨n11, en12, e10⟩ := cal_t e10
    refine e_callV (As := [.int x2]) (st := [.int x1]) (a := a0) (ci := 3) false dX3_height_18 mw_X3_nestOf (Or.inl ⟨rfl, ml_X3_81⟩) im_X3_nestOf se_X3_nestOf (by decide) ga1 gs2 rfl (Nat.le_of_ble_eq_true rfl) en12 (s_X3_nestOf e10) ?_
    obtain ⟨gf13, h⟩ := gd_t h
    refine a_mmax dX3_height_21 mm_X3_107 mmax_s ini_Math mmax_c gf13 (Nat.le_of_ble_eq_true rfl) ?_
    refine a_istore_n dX3_height_24 rfl (Nat.le_of_ble_eq_true rfl) (lv2 := [(1, .int (if x1 < v8 then v8 else x1)), (0, .ref a0), (2, .int x2)]) rfl ?_
    refine a_iinc (v := (x2 + 1)) dX3_height_25 rfl (by first | rfl | decide) (Nat.le_of_ble_eq_true rfl) (lv2 := [(2, .int (x2 + 1)), (1, .int (if x1 < v8 then v8 else x1)), (0, .ref a0)]) rfl ?_
    refine a_goto 4 dX3_height_28 (by decide) ?_
    exact a_lv (lv2 := [(0, .ref a0), (1, .int (if x1 < v8 then v8 else x1)), (2, .int (x2 + 1))]) (fa_cons rfl (fa_cons rfl (fa_cons rfl fa_nil))) (hJ _ _ _ h)
set_option maxHeartbeats 4000000 in
set_option maxRecDepth 100000 in
noncomputable def st_X3_height (n : Nat) (s : Sg) : Option (Sg ⊕ (Int32 × Mem)) := if s.1 = 0 then vR s.2.1 none (fun a0 t => vE t none (T_X3_height_0 (fun c l M => some (.inl (c, l, M))) (fun v M => some (.inr (v, M))) none n a0 s.2.2)) else if s.1 = 4 then vR s.2.1 none (fun a0 t => vI t none (fun x1 t => vI t none (fun x2 t => vE t none (T_X3_height_4 (fun c l M => some (.inl (c, l, M))) (fun v M => some (.inr (v, M))) none n a0 x1 x2 s.2.2)))) else none
noncomputable abbrev g_X3_height_0 (n : Nat) (a0 : Nat) (M : Mem) : Option (Int32 × Mem) := lp (st_X3_height n) (0, [.ref a0], M)
set_option maxHeartbeats 4000000 in
set_option maxRecDepth 100000 in
theorem ge_X3_height_0 (n : Nat) (a0 : Nat) (M : Mem) : g_X3_height_0 n a0 M = T_X3_height_0 (fun c l M => lp (st_X3_height n) (c, l, M)) (fun v M => some (v, M)) none n a0 M := (lp_eq _ _).trans (n_X3_height_0 (lpK (st_X3_height n)) (fun c l M => some (.inl (c, l, M))) (fun v M => some (.inr (v, M))) none n a0 M)
noncomputable abbrev g_X3_height_4 (n : Nat) (a0 : Nat) (x1 : Int32) (x2 : Int32) (M : Mem) : Option (Int32 × Mem) := lp (st_X3_height n) (4, [.ref a0, .int x1, .int x2], M)
set_option maxHeartbeats 4000000 in
set_option maxRecDepth 100000 in
theorem ge_X3_height_4 (n : Nat) (a0 : Nat) (x1 : Int32) (x2 : Int32) (M : Mem) : g_X3_height_4 n a0 x1 x2 M = T_X3_height_4 (fun c l M => lp (st_X3_height n) (c, l, M)) (fun v M => some (v, M)) none n a0 x1 x2 M := (lp_eq _ _).trans (n_X3_height_4 (lpK (st_X3_height n)) (fun c l M => some (.inl (c, l, M))) (fun v M => some (.inr (v, M))) none n a0 x1 x2 M)
noncomputable def b_X3_height (n : Nat) (a0 : Nat) (M : Mem) : Option (Int32 × Mem) := g_X3_height_0 n a0 M
set_option maxHeartbeats 4000000 in
set_option maxRecDepth 100000 in
theorem sb_X3_height {X : Nat × (Nat → Int32)} {al : Bool} {n : Nat} {a0 : Nat} {M : Mem} {v : Int32} {M1 : Mem} (h : b_X3_height n a0 M = some (v, M1)) : AE yX3_height cX3_height 3 (some .int) al n X [.ref a0] M (some (.int v)) M1 := by
  refine AM.of false (by decide +kernel) (by intro h; cases h) (Nat.le_of_ble_eq_true rfl) ?_
  refine lp_snd (P := fun s r => PW_X3_height X al n (fun v M2 => v = (some (.int r.1)) ∧ M2 = r.2) s.1 s.2.1 s.2.2) ?_ h
  clear h
  rintro ⟨c, l, M⟩ r h
  unfold st_X3_height at h
  rcases ite_p h with ⟨e, h⟩ | ⟨e, h⟩
  · replace e : c = 0 := e
    subst e
    obtain ⟨a0, tt0, e, h⟩ := vR_p id h
    replace e : l = _ := e
    subst e
    obtain ⟨e, h⟩ := vE_p id h
    replace e : tt0 = [] := e
    subst e
    exact w_X3_height_0 (J := fun c l M => PW_X3_height X al n (fun v M2 => v = (some (.int r.1)) ∧ M2 = r.2) c l M) (R := fun v M => (v, M) = r) (fun _ _ _ h => h) (fun v M h => by cases h; exact ⟨rfl, rfl⟩) ((n_X3_height_0 (lpP (fun (s : Sg) (r : Int32 × Mem) => PW_X3_height X al n (fun v M2 => v = (some (.int r.1)) ∧ M2 = r.2) s.1 s.2.1 s.2.2) r) (fun c l M => some (.inl (c, l, M))) (fun v M => some (.inr (v, M))) none n a0 M).mp h)
  rcases ite_p h with ⟨e, h⟩ | ⟨e, h⟩
  · replace e : c = 4 := e
    subst e
    obtain ⟨a0, tt0, e, h⟩ := vR_p id h
    replace e : l = _ := e
    subst e
    obtain ⟨x1, tt1, e, h⟩ := vI_p id h
    replace e : tt0 = _ := e
    subst e
    obtain ⟨x2, tt2, e, h⟩ := vI_p id h
    replace e : tt1 = _ := e
    subst e
    obtain ⟨e, h⟩ := vE_p id h
    replace e : tt2 = [] := e
    subst e
    exact w_X3_height_4 (J := fun c l M => PW_X3_height X al n (fun v M2 => v = (some (.int r.1)) ∧ M2 = r.2) c l M) (R := fun v M => (v, M) = r) (fun _ _ _ h => h) (fun v M h => by cases h; exact ⟨rfl, rfl⟩) ((n_X3_height_4 (lpP (fun (s : Sg) (r : Int32 × Mem) => PW_X3_height X al n (fun v M2 => v = (some (.int r.1)) ∧ M2 = r.2) s.1 s.2.1 s.2.2) r) (fun c l M => some (.inl (c, l, M))) (fun v M => some (.inr (v, M))) none n a0 x1 x2 M).mp h)
  · exact h.elim

noncomputable abbrev f_X3_height := b_X3_height
theorem s_X3_height {X : Nat × (Nat → Int32)} {al : Bool} {n : Nat} {a0 : Nat} {M : Mem} {v : Int32} {M1 : Mem} (h : f_X3_height n a0 M = some (v, M1)) : AE yX3_height cX3_height 3 (some .int) al n X [.ref a0] M (some (.int v)) M1 := sb_X3_height h
def ix_X9_hypothesesUsed (c : Nat) : List Nat := if c = 0 then [0] else if c = 4 then [0, 1, 2] else []
def PW_X9_hypothesesUsed (X : Nat × (Nat → Int32)) (al : Bool) (n : Nat) (Q : Option Value → Mem → Prop) (c : Nat) (l : List Value) (M : Mem) : Prop := AW X (RX9, cX9_hypothesesUsed, 3, (some .int), false, al, n) 0 0 c (List.zip (ix_X9_hypothesesUsed c) l) (l.drop (ix_X9_hypothesesUsed c).length) M Q
set_option maxHeartbeats 4000000 in
set_option maxRecDepth 100000 in
noncomputable def T_X9_hypothesesUsed_0.{u} {α : Sort u} (J : Nat → List Value → Mem → α) (R : Int32 → Mem → α) (N : α) (n : Nat) (a0 : Nat) (M : Mem) : α := J 4 [.ref a0, .int 0, .int 0] M
set_option maxHeartbeats 4000000 in
set_option maxRecDepth 100000 in
theorem n_X9_hypothesesUsed_0.{u, v} {α : Sort u} {β : Sort v} (h : α → β) (J : Nat → List Value → Mem → α) (R : Int32 → Mem → α) (N : α) (n : Nat) (a0 : Nat) (M : Mem) : h (T_X9_hypothesesUsed_0 J R N n a0 M) = T_X9_hypothesesUsed_0 (fun c l M => h (J c l M)) (fun v M => h (R v M)) (h N) n a0 M := by
  simp only [T_X9_hypothesesUsed_0, nat_ite h, nat_gd h, nat_bnd h, nat_bnd2 h]
set_option maxHeartbeats 4000000 in
set_option maxRecDepth 100000 in
theorem w_X9_hypothesesUsed_0 {X : Nat × (Nat → Int32)} {al : Bool} {n : Nat} {Q : Option Value → Mem → Prop} {J : Nat → List Value → Mem → Prop} (hJ : ∀ c l M, J c l M → PW_X9_hypothesesUsed X al n Q c l M) {R : Int32 → Mem → Prop} (hR : ∀ v M, R v M → Q (some (.int v)) M) {a0 : Nat} {M : Mem} (h : T_X9_hypothesesUsed_0 J R False n a0 M) : AW X (RX9, cX9_hypothesesUsed, 3, (some .int), false, al, n) 0 0 0 [(0, .ref a0)] [] M Q := by
  unfold T_X9_hypothesesUsed_0 at h
  refine a_iconst (v := 0) dX9_hypothesesUsed_0 (by decide) ?_
  refine a_istore_n dX9_hypothesesUsed_1 rfl (Nat.le_of_ble_eq_true rfl) (lv2 := [(1, .int 0), (0, .ref a0)]) rfl ?_
  refine a_iconst (v := 0) dX9_hypothesesUsed_2 (by decide) ?_
  refine a_istore_n dX9_hypothesesUsed_3 rfl (Nat.le_of_ble_eq_true rfl) (lv2 := [(2, .int 0), (1, .int 0), (0, .ref a0)]) rfl ?_
  exact a_lv (lv2 := [(0, .ref a0), (1, .int 0), (2, .int 0)]) (fa_cons rfl (fa_cons rfl (fa_cons rfl fa_nil))) (hJ _ _ _ h)
set_option maxHeartbeats 4000000 in
set_option maxRecDepth 100000 in
noncomputable def T_X9_hypothesesUsed_4.{u} {α : Sort u} (J : Nat → List Value → Mem → α) (R : Int32 → Mem → α) (N : α) (n : Nat) (a0 : Nat) (x1 : Int32) (x2 : Int32) (M : Mem) : α := gd (fO M a0 9) N (if (M.2.2.1 a0 2) ≤ x2 then R x1 M else if 200 ≤ x2 then R x1 M else bnd (M.2.2.2.2 a0 0) N (fun r5 => gd (fA M r5 1 x2) N (if (M.2.2.1 r5 (x2.toNatClampNeg)) = 1 then bnd (M.2.2.2.2 a0 1) N (fun r12 => gd (fA M r12 1 x2) N (if 0 ≤ (M.2.2.1 r12 (x2.toNatClampNeg)) then J 4 [.ref a0, .int x1, .int (x2 + 1)] M else J 4 [.ref a0, .int (x1 ||| ((1 : Int32) <<< (((-1) - (M.2.2.1 r12 (x2.toNatClampNeg))) &&& 31))), .int (x2 + 1)] M)) else J 4 [.ref a0, .int x1, .int (x2 + 1)] M)))
set_option maxHeartbeats 4000000 in
set_option maxRecDepth 100000 in
theorem n_X9_hypothesesUsed_4.{u, v} {α : Sort u} {β : Sort v} (h : α → β) (J : Nat → List Value → Mem → α) (R : Int32 → Mem → α) (N : α) (n : Nat) (a0 : Nat) (x1 : Int32) (x2 : Int32) (M : Mem) : h (T_X9_hypothesesUsed_4 J R N n a0 x1 x2 M) = T_X9_hypothesesUsed_4 (fun c l M => h (J c l M)) (fun v M => h (R v M)) (h N) n a0 x1 x2 M := by
  simp only [T_X9_hypothesesUsed_4, nat_ite h, nat_gd h, nat_bnd h, nat_bnd2 h]
set_option maxHeartbeats 4000000 in
set_option maxRecDepth 100000 in
theorem w_X9_hypothesesUsed_4 {X : Nat × (Nat → Int32)} {al : Bool} {n : Nat} {Q : Option Value → Mem → Prop} {J : Nat → List Value → Mem → Prop} (hJ : ∀ c l M, J c l M → PW_X9_hypothesesUsed X al n Q c l M) {R : Int32 → Mem → Prop} (hR : ∀ v M, R v M → Q (some (.int v)) M) {a0 : Nat} {x1 : Int32} {x2 : Int32} {M : Mem} (h : T_X9_hypothesesUsed_4 J R False n a0 x1 x2 M) : AW X (RX9, cX9_hypothesesUsed, 3, (some .int), false, al, n) 0 0 4 [(0, .ref a0), (1, .int x1), (2, .int x2)] [] M Q := by
  unfold T_X9_hypothesesUsed_4 at h
  refine a_iload_n dX9_hypothesesUsed_4 rfl rfl ?_
  refine a_aload_n dX9_hypothesesUsed_5 rfl rfl ?_
  obtain ⟨⟨ga1, gs2⟩, h⟩ := gd_t h
  refine a_get (v := .int (M.2.2.1 a0 2)) dX9_hypothesesUsed_6 fl_9_18 ga1 gs2 rfl ?_
  refine a_icmp_ge 57 dX9_hypothesesUsed_9 (by decide) (fun c3 => ?_) (fun c3 => ?_)
  · replace h := ite_t c3 h
    refine a_iload_n dX9_hypothesesUsed_57 rfl rfl ?_
    exact a_iret dX9_hypothesesUsed_58 rfl (hR _ _ h)
  · replace h := ite_f c3 h
    refine a_iload_n dX9_hypothesesUsed_12 rfl rfl ?_
    refine a_sipush (v := 200) dX9_hypothesesUsed_13 (by decide) ?_
    refine a_icmp_ge 57 dX9_hypothesesUsed_16 (by decide) (fun c4 => ?_) (fun c4 => ?_)
    · replace h := ite_t c4 h
      refine a_iload_n dX9_hypothesesUsed_57 rfl rfl ?_
      exact a_iret dX9_hypothesesUsed_58 rfl (hR _ _ h)
    · replace h := ite_f c4 h
      refine a_aload_n dX9_hypothesesUsed_19 rfl rfl ?_
      obtain ⟨r5, e6, h⟩ := bnd_t h
      refine a_get (v := .ref r5) dX9_hypothesesUsed_20 fl_9_9 ga1 gs2 (gvR e6 rfl) ?_
      refine a_iload_n dX9_hypothesesUsed_23 rfl rfl ?_
      obtain ⟨⟨ga7, gn8, gs9, gi10⟩, h⟩ := gd_t h
      refine a_iaload dX9_hypothesesUsed_24 ga7 gs9 gi10 ?_
      refine a_iconst (v := 1) dX9_hypothesesUsed_25 (by decide) ?_
      refine a_icmp_ne 51 dX9_hypothesesUsed_26 (by decide) (fun c11 => ?_) (fun c11 => ?_)
      · replace h := ite_f c11 h
        refine a_iinc (v := (x2 + 1)) dX9_hypothesesUsed_51 rfl (by first | rfl | decide) (Nat.le_of_ble_eq_true rfl) (lv2 := [(2, .int (x2 + 1)), (0, .ref a0), (1, .int x1)]) rfl ?_
        refine a_goto 4 dX9_hypothesesUsed_54 (by decide) ?_
        exact a_lv (lv2 := [(0, .ref a0), (1, .int x1), (2, .int (x2 + 1))]) (fa_cons rfl (fa_cons rfl (fa_cons rfl fa_nil))) (hJ _ _ _ h)
      · replace h := ite_t c11 h
        refine a_aload_n dX9_hypothesesUsed_29 rfl rfl ?_
        obtain ⟨r12, e13, h⟩ := bnd_t h
        refine a_get (v := .ref r12) dX9_hypothesesUsed_30 fl_9_15 ga1 gs2 (gvR e13 rfl) ?_
        refine a_iload_n dX9_hypothesesUsed_33 rfl rfl ?_
        obtain ⟨⟨ga14, gn15, gs16, gi17⟩, h⟩ := gd_t h
        refine a_iaload dX9_hypothesesUsed_34 ga14 gs16 gi17 ?_
        refine a_if_ge 51 dX9_hypothesesUsed_35 (by decide) (fun c18 => ?_) (fun c18 => ?_)
        · replace h := ite_t c18 h
          refine a_iinc (v := (x2 + 1)) dX9_hypothesesUsed_51 rfl (by first | rfl | decide) (Nat.le_of_ble_eq_true rfl) (lv2 := [(2, .int (x2 + 1)), (0, .ref a0), (1, .int x1)]) rfl ?_
          refine a_goto 4 dX9_hypothesesUsed_54 (by decide) ?_
          exact a_lv (lv2 := [(0, .ref a0), (1, .int x1), (2, .int (x2 + 1))]) (fa_cons rfl (fa_cons rfl (fa_cons rfl fa_nil))) (hJ _ _ _ h)
        · replace h := ite_f c18 h
          refine a_iload_n dX9_hypothesesUsed_38 rfl rfl ?_
          refine a_iconst (v := 1) dX9_hypothesesUsed_39 (by decide) ?_
          refine a_iconst (v := -1) dX9_hypothesesUsed_40 (by decide) ?_
          refine a_aload_n dX9_hypothesesUsed_41 rfl rfl ?_
          refine a_get (v := .ref r12) dX9_hypothesesUsed_42 fl_9_15 ga1 gs2 (gvR e13 rfl) ?_
          refine a_iload_n dX9_hypothesesUsed_45 rfl rfl ?_
          refine a_iaload dX9_hypothesesUsed_46 ga14 gs16 gi17 ?_
          refine a_isub dX9_hypothesesUsed_47 ?_
          refine a_ishl dX9_hypothesesUsed_48 ?_
          refine a_ior dX9_hypothesesUsed_49 ?_
          refine a_istore_n dX9_hypothesesUsed_50 rfl (Nat.le_of_ble_eq_true rfl) (lv2 := [(1, .int (x1 ||| ((1 : Int32) <<< (((-1) - (M.2.2.1 r12 (x2.toNatClampNeg))) &&& 31)))), (0, .ref a0), (2, .int x2)]) rfl ?_
          refine a_iinc (v := (x2 + 1)) dX9_hypothesesUsed_51 rfl (by first | rfl | decide) (Nat.le_of_ble_eq_true rfl) (lv2 := [(2, .int (x2 + 1)), (1, .int (x1 ||| ((1 : Int32) <<< (((-1) - (M.2.2.1 r12 (x2.toNatClampNeg))) &&& 31)))), (0, .ref a0)]) rfl ?_
          refine a_goto 4 dX9_hypothesesUsed_54 (by decide) ?_
          exact a_lv (lv2 := [(0, .ref a0), (1, .int (x1 ||| ((1 : Int32) <<< (((-1) - (M.2.2.1 r12 (x2.toNatClampNeg))) &&& 31)))), (2, .int (x2 + 1))]) (fa_cons rfl (fa_cons rfl (fa_cons rfl fa_nil))) (hJ _ _ _ h)
set_option maxHeartbeats 4000000 in
set_option maxRecDepth 100000 in
noncomputable def st_X9_hypothesesUsed (n : Nat) (s : Sg) : Option (Sg ⊕ (Int32 × Mem)) := if s.1 = 0 then vR s.2.1 none (fun a0 t => vE t none (T_X9_hypothesesUsed_0 (fun c l M => some (.inl (c, l, M))) (fun v M => some (.inr (v, M))) none n a0 s.2.2)) else if s.1 = 4 then vR s.2.1 none (fun a0 t => vI t none (fun x1 t => vI t none (fun x2 t => vE t none (T_X9_hypothesesUsed_4 (fun c l M => some (.inl (c, l, M))) (fun v M => some (.inr (v, M))) none n a0 x1 x2 s.2.2)))) else none
noncomputable abbrev g_X9_hypothesesUsed_0 (n : Nat) (a0 : Nat) (M : Mem) : Option (Int32 × Mem) := lp (st_X9_hypothesesUsed n) (0, [.ref a0], M)
set_option maxHeartbeats 4000000 in
set_option maxRecDepth 100000 in
theorem ge_X9_hypothesesUsed_0 (n : Nat) (a0 : Nat) (M : Mem) : g_X9_hypothesesUsed_0 n a0 M = T_X9_hypothesesUsed_0 (fun c l M => lp (st_X9_hypothesesUsed n) (c, l, M)) (fun v M => some (v, M)) none n a0 M := (lp_eq _ _).trans (n_X9_hypothesesUsed_0 (lpK (st_X9_hypothesesUsed n)) (fun c l M => some (.inl (c, l, M))) (fun v M => some (.inr (v, M))) none n a0 M)
noncomputable abbrev g_X9_hypothesesUsed_4 (n : Nat) (a0 : Nat) (x1 : Int32) (x2 : Int32) (M : Mem) : Option (Int32 × Mem) := lp (st_X9_hypothesesUsed n) (4, [.ref a0, .int x1, .int x2], M)
set_option maxHeartbeats 4000000 in
set_option maxRecDepth 100000 in
theorem ge_X9_hypothesesUsed_4 (n : Nat) (a0 : Nat) (x1 : Int32) (x2 : Int32) (M : Mem) : g_X9_hypothesesUsed_4 n a0 x1 x2 M = T_X9_hypothesesUsed_4 (fun c l M => lp (st_X9_hypothesesUsed n) (c, l, M)) (fun v M => some (v, M)) none n a0 x1 x2 M := (lp_eq _ _).trans (n_X9_hypothesesUsed_4 (lpK (st_X9_hypothesesUsed n)) (fun c l M => some (.inl (c, l, M))) (fun v M => some (.inr (v, M))) none n a0 x1 x2 M)
noncomputable def b_X9_hypothesesUsed (n : Nat) (a0 : Nat) (M : Mem) : Option (Int32 × Mem) := g_X9_hypothesesUsed_0 n a0 M
set_option maxHeartbeats 4000000 in
set_option maxRecDepth 100000 in
theorem sb_X9_hypothesesUsed {X : Nat × (Nat → Int32)} {al : Bool} {n : Nat} {a0 : Nat} {M : Mem} {v : Int32} {M1 : Mem} (h : b_X9_hypothesesUsed n a0 M = some (v, M1)) : AE yX9_hypothesesUsed cX9_hypothesesUsed 3 (some .int) al n X [.ref a0] M (some (.int v)) M1 := by
  refine AM.of false (by decide +kernel) (by intro h; cases h) (Nat.le_of_ble_eq_true rfl) ?_
  refine lp_snd (P := fun s r => PW_X9_hypothesesUsed X al n (fun v M2 => v = (some (.int r.1)) ∧ M2 = r.2) s.1 s.2.1 s.2.2) ?_ h
  clear h
  rintro ⟨c, l, M⟩ r h
  unfold st_X9_hypothesesUsed at h
  rcases ite_p h with ⟨e, h⟩ | ⟨e, h⟩
  · replace e : c = 0 := e
    subst e
    obtain ⟨a0, tt0, e, h⟩ := vR_p id h
    replace e : l = _ := e
    subst e
    obtain ⟨e, h⟩ := vE_p id h
    replace e : tt0 = [] := e
    subst e
    exact w_X9_hypothesesUsed_0 (J := fun c l M => PW_X9_hypothesesUsed X al n (fun v M2 => v = (some (.int r.1)) ∧ M2 = r.2) c l M) (R := fun v M => (v, M) = r) (fun _ _ _ h => h) (fun v M h => by cases h; exact ⟨rfl, rfl⟩) ((n_X9_hypothesesUsed_0 (lpP (fun (s : Sg) (r : Int32 × Mem) => PW_X9_hypothesesUsed X al n (fun v M2 => v = (some (.int r.1)) ∧ M2 = r.2) s.1 s.2.1 s.2.2) r) (fun c l M => some (.inl (c, l, M))) (fun v M => some (.inr (v, M))) none n a0 M).mp h)
  rcases ite_p h with ⟨e, h⟩ | ⟨e, h⟩
  · replace e : c = 4 := e
    subst e
    obtain ⟨a0, tt0, e, h⟩ := vR_p id h
    replace e : l = _ := e
    subst e
    obtain ⟨x1, tt1, e, h⟩ := vI_p id h
    replace e : tt0 = _ := e
    subst e
    obtain ⟨x2, tt2, e, h⟩ := vI_p id h
    replace e : tt1 = _ := e
    subst e
    obtain ⟨e, h⟩ := vE_p id h
    replace e : tt2 = [] := e
    subst e
    exact w_X9_hypothesesUsed_4 (J := fun c l M => PW_X9_hypothesesUsed X al n (fun v M2 => v = (some (.int r.1)) ∧ M2 = r.2) c l M) (R := fun v M => (v, M) = r) (fun _ _ _ h => h) (fun v M h => by cases h; exact ⟨rfl, rfl⟩) ((n_X9_hypothesesUsed_4 (lpP (fun (s : Sg) (r : Int32 × Mem) => PW_X9_hypothesesUsed X al n (fun v M2 => v = (some (.int r.1)) ∧ M2 = r.2) s.1 s.2.1 s.2.2) r) (fun c l M => some (.inl (c, l, M))) (fun v M => some (.inr (v, M))) none n a0 x1 x2 M).mp h)
  · exact h.elim

noncomputable abbrev f_X9_hypothesesUsed := b_X9_hypothesesUsed
theorem s_X9_hypothesesUsed {X : Nat × (Nat → Int32)} {al : Bool} {n : Nat} {a0 : Nat} {M : Mem} {v : Int32} {M1 : Mem} (h : f_X9_hypothesesUsed n a0 M = some (v, M1)) : AE yX9_hypothesesUsed cX9_hypothesesUsed 3 (some .int) al n X [.ref a0] M (some (.int v)) M1 := sb_X9_hypothesesUsed h
def ix_X9_redexAt (c : Nat) : List Nat := if c = 0 then [0, 1] else if c = 44 then [2, 3] else []
def PW_X9_redexAt (X : Nat × (Nat → Int32)) (al : Bool) (n : Nat) (Q : Option Value → Mem → Prop) (c : Nat) (l : List Value) (M : Mem) : Prop := AW X (RX9, cX9_redexAt, 4, (some .int), false, al, n) 0 0 c (List.zip (ix_X9_redexAt c) l) (l.drop (ix_X9_redexAt c).length) M Q
set_option maxHeartbeats 4000000 in
set_option maxRecDepth 100000 in
noncomputable def T_X9_redexAt_0.{u} {α : Sort u} (J : Nat → List Value → Mem → α) (R : Int32 → Mem → α) (N : α) (n : Nat) (a0 : Nat) (x1 : Int32) (M : Mem) : α := gd (fO M a0 9) N (bnd2 (cal n (fun n => f_X9_opAt n a0 x1 M)) N (fun v3 M4 => gd (fO M4 a0 9) N (bnd2 (cal n (fun n => f_X9_opAt n a0 (x1 + 1) M4)) N (fun v10 M11 => if v3 = 3 then J 44 [.int v3, .int v10] M11 else if v3 = 5 then J 44 [.int v3, .int v10] M11 else if v3 = 6 then J 44 [.int v3, .int v10] M11 else if v3 = 9 then J 44 [.int v3, .int v10] M11 else if v3 = 10 then J 44 [.int v3, .int v10] M11 else R 0 M11))))
set_option maxHeartbeats 4000000 in
set_option maxRecDepth 100000 in
theorem n_X9_redexAt_0.{u, v} {α : Sort u} {β : Sort v} (h : α → β) (J : Nat → List Value → Mem → α) (R : Int32 → Mem → α) (N : α) (n : Nat) (a0 : Nat) (x1 : Int32) (M : Mem) : h (T_X9_redexAt_0 J R N n a0 x1 M) = T_X9_redexAt_0 (fun c l M => h (J c l M)) (fun v M => h (R v M)) (h N) n a0 x1 M := by
  simp only [T_X9_redexAt_0, nat_ite h, nat_gd h, nat_bnd h, nat_bnd2 h]
set_option maxHeartbeats 4000000 in
set_option maxRecDepth 100000 in
theorem w_X9_redexAt_0 {X : Nat × (Nat → Int32)} {al : Bool} {n : Nat} {Q : Option Value → Mem → Prop} {J : Nat → List Value → Mem → Prop} (hJ : ∀ c l M, J c l M → PW_X9_redexAt X al n Q c l M) {R : Int32 → Mem → Prop} (hR : ∀ v M, R v M → Q (some (.int v)) M) {a0 : Nat} {x1 : Int32} {M : Mem} (h : T_X9_redexAt_0 J R False n a0 x1 M) : AW X (RX9, cX9_redexAt, 4, (some .int), false, al, n) 0 0 0 [(0, .ref a0), (1, .int x1)] [] M Q := by
  unfold T_X9_redexAt_0 at h
  refine a_aload_n dX9_redexAt_0 rfl rfl ?_
  refine a_iload_n dX9_redexAt_1 rfl rfl ?_
  obtain ⟨⟨ga1, gs2⟩, h⟩ := gd_t h
  obtain ⟨v3, M4, e5, h⟩ := bnd2_t h
  obtain ⟨n6, en7, e5⟩ := cal_t e5
  refine e_callV (As := [.int x1]) (st := []) (a := a0) (ci := 9) false dX9_redexAt_2 mw_X9_opAt (Or.inl ⟨rfl, ml_X9_26⟩) im_X9_opAt se_X9_opAt (by decide) ga1 gs2 rfl (Nat.le_of_ble_eq_true rfl) en7 (s_X9_opAt e5) ?_
  refine a_istore_n dX9_redexAt_5 rfl (Nat.le_of_ble_eq_true rfl) (lv2 := [(2, .int v3), (0, .ref a0), (1, .int x1)]) rfl ?_
  refine a_aload_n dX9_redexAt_6 rfl rfl ?_
  refine a_iload_n dX9_redexAt_7 rfl rfl ?_
  refine a_iconst (v := 1) dX9_redexAt_8 (by decide) ?_
  refine a_iadd dX9_redexAt_9 ?_
  obtain ⟨⟨ga8, gs9⟩, h⟩ := gd_t h
  obtain ⟨v10, M11, e12, h⟩ := bnd2_t h
  obtain ⟨n13, en14, e12⟩ := cal_t e12
  refine e_callV (As := [.int (x1 + 1)]) (st := []) (a := a0) (ci := 9) false dX9_redexAt_10 mw_X9_opAt (Or.inl ⟨rfl, ml_X9_26⟩) im_X9_opAt se_X9_opAt (by decide) ga8 gs9 rfl (Nat.le_of_ble_eq_true rfl) en14 (s_X9_opAt e12) ?_
  refine a_istore_n dX9_redexAt_13 rfl (Nat.le_of_ble_eq_true rfl) (lv2 := [(3, .int v10), (2, .int v3), (0, .ref a0), (1, .int x1)]) rfl ?_
  refine a_iload_n dX9_redexAt_14 rfl rfl ?_
  refine a_iconst (v := 3) dX9_redexAt_15 (by decide) ?_
  refine a_icmp_eq 44 dX9_redexAt_16 (by decide) (fun c15 => ?_) (fun c15 => ?_)
  · replace h := ite_t c15 h
    exact a_lv (lv2 := [(2, .int v3), (3, .int v10)]) (fa_cons rfl (fa_cons rfl fa_nil)) (hJ _ _ _ h)
  · replace h := ite_f c15 h
    refine a_iload_n dX9_redexAt_19 rfl rfl ?_
    refine a_iconst (v := 5) dX9_redexAt_20 (by decide) ?_
    refine a_icmp_eq 44 dX9_redexAt_21 (by decide) (fun c16 => ?_) (fun c16 => ?_)
    · replace h := ite_t c16 h
      exact a_lv (lv2 := [(2, .int v3), (3, .int v10)]) (fa_cons rfl (fa_cons rfl fa_nil)) (hJ _ _ _ h)
    · replace h := ite_f c16 h
      refine a_iload_n dX9_redexAt_24 rfl rfl ?_
      refine a_bipush (v := 6) dX9_redexAt_25 (by decide) ?_
      refine a_icmp_eq 44 dX9_redexAt_27 (by decide) (fun c17 => ?_) (fun c17 => ?_)
      · replace h := ite_t c17 h
        exact a_lv (lv2 := [(2, .int v3), (3, .int v10)]) (fa_cons rfl (fa_cons rfl fa_nil)) (hJ _ _ _ h)
      · replace h := ite_f c17 h
        refine a_iload_n dX9_redexAt_30 rfl rfl ?_
        refine a_bipush (v := 9) dX9_redexAt_31 (by decide) ?_
        refine a_icmp_eq 44 dX9_redexAt_33 (by decide) (fun c18 => ?_) (fun c18 => ?_)
        · replace h := ite_t c18 h
          exact a_lv (lv2 := [(2, .int v3), (3, .int v10)]) (fa_cons rfl (fa_cons rfl fa_nil)) (hJ _ _ _ h)
        · replace h := ite_f c18 h
          refine a_iload_n dX9_redexAt_36 rfl rfl ?_
          refine a_bipush (v := 10) dX9_redexAt_37 (by decide) ?_
          refine a_icmp_eq 44 dX9_redexAt_39 (by decide) (fun c19 => ?_) (fun c19 => ?_)
          · replace h := ite_t c19 h
            exact a_lv (lv2 := [(2, .int v3), (3, .int v10)]) (fa_cons rfl (fa_cons rfl fa_nil)) (hJ _ _ _ h)
          · replace h := ite_f c19 h
            refine a_iconst (v := 0) dX9_redexAt_42 (by decide) ?_
            exact a_iret dX9_redexAt_43 rfl (hR _ _ h)
set_option maxHeartbeats 4000000 in
set_option maxRecDepth 100000 in
noncomputable def T_X9_redexAt_44.{u} {α : Sort u} (J : Nat → List Value → Mem → α) (R : Int32 → Mem → α) (N : α) (n : Nat) (x2 : Int32) (x3 : Int32) (M : Mem) : α := if x3 = 9 then if x3 = 9 then R 6 M else R 7 M else if x3 = 10 then if x3 = 9 then R 6 M else R 7 M else if x2 = 3 then if x3 = 2 then R 1 M else R 0 M else if x2 = 4 then R 0 M else if x2 = 5 then if x3 = 4 then R 2 M else R 0 M else if x2 = 6 then if x3 = 4 then R 3 M else R 0 M else if x2 = 7 then R 0 M else if x2 = 8 then R 0 M else if x2 = 9 then if x3 = 7 then R 4 M else if x3 = 8 then R 5 M else R 0 M else R 0 M
set_option maxHeartbeats 4000000 in
set_option maxRecDepth 100000 in
theorem n_X9_redexAt_44.{u, v} {α : Sort u} {β : Sort v} (h : α → β) (J : Nat → List Value → Mem → α) (R : Int32 → Mem → α) (N : α) (n : Nat) (x2 : Int32) (x3 : Int32) (M : Mem) : h (T_X9_redexAt_44 J R N n x2 x3 M) = T_X9_redexAt_44 (fun c l M => h (J c l M)) (fun v M => h (R v M)) (h N) n x2 x3 M := by
  simp only [T_X9_redexAt_44, nat_ite h, nat_gd h, nat_bnd h, nat_bnd2 h]
set_option maxHeartbeats 4000000 in
set_option maxRecDepth 100000 in
theorem w_X9_redexAt_44 {X : Nat × (Nat → Int32)} {al : Bool} {n : Nat} {Q : Option Value → Mem → Prop} {J : Nat → List Value → Mem → Prop} (hJ : ∀ c l M, J c l M → PW_X9_redexAt X al n Q c l M) {R : Int32 → Mem → Prop} (hR : ∀ v M, R v M → Q (some (.int v)) M) {x2 : Int32} {x3 : Int32} {M : Mem} (h : T_X9_redexAt_44 J R False n x2 x3 M) : AW X (RX9, cX9_redexAt, 4, (some .int), false, al, n) 0 0 44 [(2, .int x2), (3, .int x3)] [] M Q := by
  unfold T_X9_redexAt_44 at h
  refine a_iload_n dX9_redexAt_44 rfl rfl ?_
  refine a_bipush (v := 9) dX9_redexAt_45 (by decide) ?_
  refine a_icmp_eq 56 dX9_redexAt_47 (by decide) (fun c1 => ?_) (fun c1 => ?_)
  · replace h := ite_t c1 h
    refine a_iload_n dX9_redexAt_56 rfl rfl ?_
    refine a_bipush (v := 9) dX9_redexAt_57 (by decide) ?_
    refine a_icmp_ne 67 dX9_redexAt_59 (by decide) (fun c2 => ?_) (fun c2 => ?_)
    · replace h := ite_f c2 h
      refine a_bipush (v := 7) dX9_redexAt_67 (by decide) ?_
      exact a_iret dX9_redexAt_69 rfl (hR _ _ h)
    · replace h := ite_t c2 h
      refine a_bipush (v := 6) dX9_redexAt_62 (by decide) ?_
      refine a_goto 69 dX9_redexAt_64 (by decide) ?_
      exact a_iret dX9_redexAt_69 rfl (hR _ _ h)
  · replace h := ite_f c1 h
    refine a_iload_n dX9_redexAt_50 rfl rfl ?_
    refine a_bipush (v := 10) dX9_redexAt_51 (by decide) ?_
    refine a_icmp_ne 70 dX9_redexAt_53 (by decide) (fun c3 => ?_) (fun c3 => ?_)
    · replace h := ite_f c3 h
      refine a_iload_n dX9_redexAt_70 rfl rfl ?_
      by_cases c4 : x2 = 3
      · replace h := ite_t c4 h
        refine a_tableIn (off := 41) 112 dX9_redexAt_71 (by rw [c4]; decide) (by rw [c4]; decide) (by rw [c4]; rfl) (by decide) ?_
        refine a_iload_n dX9_redexAt_112 rfl rfl ?_
        refine a_iconst (v := 2) dX9_redexAt_113 (by decide) ?_
        refine a_icmp_ne 121 dX9_redexAt_114 (by decide) (fun c5 => ?_) (fun c5 => ?_)
        · replace h := ite_f c5 h
          refine a_iconst (v := 0) dX9_redexAt_121 (by decide) ?_
          exact a_iret dX9_redexAt_122 rfl (hR _ _ h)
        · replace h := ite_t c5 h
          refine a_iconst (v := 1) dX9_redexAt_117 (by decide) ?_
          refine a_goto 122 dX9_redexAt_118 (by decide) ?_
          exact a_iret dX9_redexAt_122 rfl (hR _ _ h)
      replace h := ite_f c4 h
      by_cases c6 : x2 = 4
      · replace h := ite_t c6 h
        refine a_tableIn (off := 96) 167 dX9_redexAt_71 (by rw [c6]; decide) (by rw [c6]; decide) (by rw [c6]; rfl) (by decide) ?_
        refine a_iconst (v := 0) dX9_redexAt_167 (by decide) ?_
        exact a_iret dX9_redexAt_168 rfl (hR _ _ h)
      replace h := ite_f c6 h
      by_cases c7 : x2 = 5
      · replace h := ite_t c7 h
        refine a_tableIn (off := 52) 123 dX9_redexAt_71 (by rw [c7]; decide) (by rw [c7]; decide) (by rw [c7]; rfl) (by decide) ?_
        refine a_iload_n dX9_redexAt_123 rfl rfl ?_
        refine a_iconst (v := 4) dX9_redexAt_124 (by decide) ?_
        refine a_icmp_ne 132 dX9_redexAt_125 (by decide) (fun c8 => ?_) (fun c8 => ?_)
        · replace h := ite_f c8 h
          refine a_iconst (v := 0) dX9_redexAt_132 (by decide) ?_
          exact a_iret dX9_redexAt_133 rfl (hR _ _ h)
        · replace h := ite_t c8 h
          refine a_iconst (v := 2) dX9_redexAt_128 (by decide) ?_
          refine a_goto 133 dX9_redexAt_129 (by decide) ?_
          exact a_iret dX9_redexAt_133 rfl (hR _ _ h)
      replace h := ite_f c7 h
      by_cases c9 : x2 = 6
      · replace h := ite_t c9 h
        refine a_tableIn (off := 63) 134 dX9_redexAt_71 (by rw [c9]; decide) (by rw [c9]; decide) (by rw [c9]; rfl) (by decide) ?_
        refine a_iload_n dX9_redexAt_134 rfl rfl ?_
        refine a_iconst (v := 4) dX9_redexAt_135 (by decide) ?_
        refine a_icmp_ne 143 dX9_redexAt_136 (by decide) (fun c10 => ?_) (fun c10 => ?_)
        · replace h := ite_f c10 h
          refine a_iconst (v := 0) dX9_redexAt_143 (by decide) ?_
          exact a_iret dX9_redexAt_144 rfl (hR _ _ h)
        · replace h := ite_t c10 h
          refine a_iconst (v := 3) dX9_redexAt_139 (by decide) ?_
          refine a_goto 144 dX9_redexAt_140 (by decide) ?_
          exact a_iret dX9_redexAt_144 rfl (hR _ _ h)
      replace h := ite_f c9 h
      by_cases c11 : x2 = 7
      · replace h := ite_t c11 h
        refine a_tableIn (off := 96) 167 dX9_redexAt_71 (by rw [c11]; decide) (by rw [c11]; decide) (by rw [c11]; rfl) (by decide) ?_
        refine a_iconst (v := 0) dX9_redexAt_167 (by decide) ?_
        exact a_iret dX9_redexAt_168 rfl (hR _ _ h)
      replace h := ite_f c11 h
      by_cases c12 : x2 = 8
      · replace h := ite_t c12 h
        refine a_tableIn (off := 96) 167 dX9_redexAt_71 (by rw [c12]; decide) (by rw [c12]; decide) (by rw [c12]; rfl) (by decide) ?_
        refine a_iconst (v := 0) dX9_redexAt_167 (by decide) ?_
        exact a_iret dX9_redexAt_168 rfl (hR _ _ h)
      replace h := ite_f c12 h
      by_cases c13 : x2 = 9
      · replace h := ite_t c13 h
        refine a_tableIn (off := 74) 145 dX9_redexAt_71 (by rw [c13]; decide) (by rw [c13]; decide) (by rw [c13]; rfl) (by decide) ?_
        refine a_iload_n dX9_redexAt_145 rfl rfl ?_
        refine a_bipush (v := 7) dX9_redexAt_146 (by decide) ?_
        refine a_icmp_ne 155 dX9_redexAt_148 (by decide) (fun c14 => ?_) (fun c14 => ?_)
        · replace h := ite_f c14 h
          refine a_iload_n dX9_redexAt_155 rfl rfl ?_
          refine a_bipush (v := 8) dX9_redexAt_156 (by decide) ?_
          refine a_icmp_ne 165 dX9_redexAt_158 (by decide) (fun c15 => ?_) (fun c15 => ?_)
          · replace h := ite_f c15 h
            refine a_iconst (v := 0) dX9_redexAt_165 (by decide) ?_
            exact a_iret dX9_redexAt_166 rfl (hR _ _ h)
          · replace h := ite_t c15 h
            refine a_iconst (v := 5) dX9_redexAt_161 (by decide) ?_
            refine a_goto 166 dX9_redexAt_162 (by decide) ?_
            exact a_iret dX9_redexAt_166 rfl (hR _ _ h)
        · replace h := ite_t c14 h
          refine a_iconst (v := 4) dX9_redexAt_151 (by decide) ?_
          refine a_goto 166 dX9_redexAt_152 (by decide) ?_
          exact a_iret dX9_redexAt_166 rfl (hR _ _ h)
      replace h := ite_f c13 h
      refine a_tableOut 167 dX9_redexAt_71 (by have q0 := ne_toInt (z := 3) c4 rfl; have q1 := ne_toInt (z := 4) c6 rfl; have q2 := ne_toInt (z := 5) c7 rfl; have q3 := ne_toInt (z := 6) c9 rfl; have q4 := ne_toInt (z := 7) c11 rfl; have q5 := ne_toInt (z := 8) c12 rfl; have q6 := ne_toInt (z := 9) c13 rfl; omega) (by decide) ?_
      refine a_iconst (v := 0) dX9_redexAt_167 (by decide) ?_
      exact a_iret dX9_redexAt_168 rfl (hR _ _ h)
    · replace h := ite_t c3 h
      refine a_iload_n dX9_redexAt_56 rfl rfl ?_
      refine a_bipush (v := 9) dX9_redexAt_57 (by decide) ?_
      refine a_icmp_ne 67 dX9_redexAt_59 (by decide) (fun c16 => ?_) (fun c16 => ?_)
      · replace h := ite_f c16 h
        refine a_bipush (v := 7) dX9_redexAt_67 (by decide) ?_
        exact a_iret dX9_redexAt_69 rfl (hR _ _ h)
      · replace h := ite_t c16 h
        refine a_bipush (v := 6) dX9_redexAt_62 (by decide) ?_
        refine a_goto 69 dX9_redexAt_64 (by decide) ?_
        exact a_iret dX9_redexAt_69 rfl (hR _ _ h)
set_option maxHeartbeats 4000000 in
set_option maxRecDepth 100000 in
noncomputable def st_X9_redexAt (n : Nat) (s : Sg) : Option (Sg ⊕ (Int32 × Mem)) := if s.1 = 0 then vR s.2.1 none (fun a0 t => vI t none (fun x1 t => vE t none (T_X9_redexAt_0 (fun c l M => some (.inl (c, l, M))) (fun v M => some (.inr (v, M))) none n a0 x1 s.2.2))) else if s.1 = 44 then vI s.2.1 none (fun x2 t => vI t none (fun x3 t => vE t none (T_X9_redexAt_44 (fun c l M => some (.inl (c, l, M))) (fun v M => some (.inr (v, M))) none n x2 x3 s.2.2))) else none
noncomputable abbrev g_X9_redexAt_0 (n : Nat) (a0 : Nat) (x1 : Int32) (M : Mem) : Option (Int32 × Mem) := lp (st_X9_redexAt n) (0, [.ref a0, .int x1], M)
set_option maxHeartbeats 4000000 in
set_option maxRecDepth 100000 in
theorem ge_X9_redexAt_0 (n : Nat) (a0 : Nat) (x1 : Int32) (M : Mem) : g_X9_redexAt_0 n a0 x1 M = T_X9_redexAt_0 (fun c l M => lp (st_X9_redexAt n) (c, l, M)) (fun v M => some (v, M)) none n a0 x1 M := (lp_eq _ _).trans (n_X9_redexAt_0 (lpK (st_X9_redexAt n)) (fun c l M => some (.inl (c, l, M))) (fun v M => some (.inr (v, M))) none n a0 x1 M)
noncomputable abbrev g_X9_redexAt_44 (n : Nat) (x2 : Int32) (x3 : Int32) (M : Mem) : Option (Int32 × Mem) := lp (st_X9_redexAt n) (44, [.int x2, .int x3], M)
set_option maxHeartbeats 4000000 in
set_option maxRecDepth 100000 in
theorem ge_X9_redexAt_44 (n : Nat) (x2 : Int32) (x3 : Int32) (M : Mem) : g_X9_redexAt_44 n x2 x3 M = T_X9_redexAt_44 (fun c l M => lp (st_X9_redexAt n) (c, l, M)) (fun v M => some (v, M)) none n x2 x3 M := (lp_eq _ _).trans (n_X9_redexAt_44 (lpK (st_X9_redexAt n)) (fun c l M => some (.inl (c, l, M))) (fun v M => some (.inr (v, M))) none n x2 x3 M)
noncomputable def b_X9_redexAt (n : Nat) (a0 : Nat) (x1 : Int32) (M : Mem) : Option (Int32 × Mem) := g_X9_redexAt_0 n a0 x1 M
set_option maxHeartbeats 4000000 in
set_option maxRecDepth 100000 in
theorem sb_X9_redexAt {X : Nat × (Nat → Int32)} {al : Bool} {n : Nat} {a0 : Nat} {x1 : Int32} {M : Mem} {v : Int32} {M1 : Mem} (h : b_X9_redexAt n a0 x1 M = some (v, M1)) : AE yX9_redexAt cX9_redexAt 4 (some .int) al n X [.ref a0, .int x1] M (some (.int v)) M1 := by
  refine AM.of false (by decide +kernel) (by intro h; cases h) (Nat.le_of_ble_eq_true rfl) ?_
  refine lp_snd (P := fun s r => PW_X9_redexAt X al n (fun v M2 => v = (some (.int r.1)) ∧ M2 = r.2) s.1 s.2.1 s.2.2) ?_ h
  clear h
  rintro ⟨c, l, M⟩ r h
  unfold st_X9_redexAt at h
  rcases ite_p h with ⟨e, h⟩ | ⟨e, h⟩
  · replace e : c = 0 := e
    subst e
    obtain ⟨a0, tt0, e, h⟩ := vR_p id h
    replace e : l = _ := e
    subst e
    obtain ⟨x1, tt1, e, h⟩ := vI_p id h
    replace e : tt0 = _ := e
    subst e
    obtain ⟨e, h⟩ := vE_p id h
    replace e : tt1 = [] := e
    subst e
    exact w_X9_redexAt_0 (J := fun c l M => PW_X9_redexAt X al n (fun v M2 => v = (some (.int r.1)) ∧ M2 = r.2) c l M) (R := fun v M => (v, M) = r) (fun _ _ _ h => h) (fun v M h => by cases h; exact ⟨rfl, rfl⟩) ((n_X9_redexAt_0 (lpP (fun (s : Sg) (r : Int32 × Mem) => PW_X9_redexAt X al n (fun v M2 => v = (some (.int r.1)) ∧ M2 = r.2) s.1 s.2.1 s.2.2) r) (fun c l M => some (.inl (c, l, M))) (fun v M => some (.inr (v, M))) none n a0 x1 M).mp h)
  rcases ite_p h with ⟨e, h⟩ | ⟨e, h⟩
  · replace e : c = 44 := e
    subst e
    obtain ⟨x2, tt0, e, h⟩ := vI_p id h
    replace e : l = _ := e
    subst e
    obtain ⟨x3, tt1, e, h⟩ := vI_p id h
    replace e : tt0 = _ := e
    subst e
    obtain ⟨e, h⟩ := vE_p id h
    replace e : tt1 = [] := e
    subst e
    exact w_X9_redexAt_44 (J := fun c l M => PW_X9_redexAt X al n (fun v M2 => v = (some (.int r.1)) ∧ M2 = r.2) c l M) (R := fun v M => (v, M) = r) (fun _ _ _ h => h) (fun v M h => by cases h; exact ⟨rfl, rfl⟩) ((n_X9_redexAt_44 (lpP (fun (s : Sg) (r : Int32 × Mem) => PW_X9_redexAt X al n (fun v M2 => v = (some (.int r.1)) ∧ M2 = r.2) s.1 s.2.1 s.2.2) r) (fun c l M => some (.inl (c, l, M))) (fun v M => some (.inr (v, M))) none n x2 x3 M).mp h)
  · exact h.elim

noncomputable abbrev f_X9_redexAt := b_X9_redexAt
theorem s_X9_redexAt {X : Nat × (Nat → Int32)} {al : Bool} {n : Nat} {a0 : Nat} {x1 : Int32} {M : Mem} {v : Int32} {M1 : Mem} (h : f_X9_redexAt n a0 x1 M = some (v, M1)) : AE yX9_redexAt cX9_redexAt 4 (some .int) al n X [.ref a0, .int x1] M (some (.int v)) M1 := sb_X9_redexAt h
