/-! METHODS AS FUNCTIONS, written by wip/gen/shallow.py -/
set_option maxHeartbeats 4000000 in
set_option maxRecDepth 100000 in
noncomputable def T_X6_push_0.{u} {α : Sort u} (R : Unit → Mem → α) (N : α) (n : Nat) (a0 : Nat) (x1 : Int32) (M : Mem) : α := gd (fO M a0 6) N (if (M.2.2.1 a0 6) < 0 then R () M else bnd (M.2.2.2.2 a0 5) N (fun r4 => bnd (aLen M r4) N (fun z6 => if (Int32.ofNat z6) ≤ (M.2.2.1 a0 6) then R () M else gd (fA M r4 1 (M.2.2.1 a0 6)) N (R () (wI (wI M r4 ((M.2.2.1 a0 6).toNatClampNeg) x1) a0 6 (((wI M r4 ((M.2.2.1 a0 6).toNatClampNeg) x1).2.2.1 a0 6) + 1))))))
set_option maxHeartbeats 4000000 in
set_option maxRecDepth 100000 in
theorem n_X6_push_0.{u, v} {α : Sort u} {β : Sort v} (h : α → β) (R : Unit → Mem → α) (N : α) (n : Nat) (a0 : Nat) (x1 : Int32) (M : Mem) : h (T_X6_push_0 R N n a0 x1 M) = T_X6_push_0 (fun v M => h (R v M)) (h N) n a0 x1 M := by
  simp only [T_X6_push_0, nat_ite h, nat_gd h, nat_bnd h, nat_bnd2 h]
set_option maxHeartbeats 4000000 in
set_option maxRecDepth 100000 in
theorem w_X6_push_0 {X : Nat × (Nat → Int32)} {al : Bool} {n : Nat} {Q : Option Value → Mem → Prop} {R : Unit → Mem → Prop} (hR : ∀ v M, R v M → Q none M) {a0 : Nat} {x1 : Int32} {M : Mem} (h : T_X6_push_0 R False n a0 x1 M) : AW X (RX6, cX6_push, 2, none, false, al, n) 0 0 0 [(0, .ref a0), (1, .int x1)] [] M Q := by
  unfold T_X6_push_0 at h
  refine a_aload_n dX6_push_0 rfl rfl ?_
  obtain ⟨⟨ga1, gs2⟩, h⟩ := gd_t h
  refine a_get (v := .int (M.2.2.1 a0 6)) dX6_push_1 fl_6_157 ga1 gs2 rfl ?_
  refine a_if_lt 39 dX6_push_4 (by decide) (fun c3 => ?_) (fun c3 => ?_)
  · replace h := ite_t c3 h
    exact a_vret dX6_push_39 rfl (hR _ _ h)
  · replace h := ite_f c3 h
    refine a_aload_n dX6_push_7 rfl rfl ?_
    refine a_get (v := .int (M.2.2.1 a0 6)) dX6_push_8 fl_6_157 ga1 gs2 rfl ?_
    refine a_aload_n dX6_push_11 rfl rfl ?_
    obtain ⟨r4, e5, h⟩ := bnd_t h
    refine a_get (v := .ref r4) dX6_push_12 fl_6_26 ga1 gs2 (gvR e5 rfl) ?_
    obtain ⟨z6, e7, h⟩ := bnd_t h
    obtain ⟨ga8, gt9, gu10, gs11⟩ := aLen_t e7
    refine a_alen gu10 dX6_push_15 ga8 gs11 rfl ?_
    refine a_icmp_ge 39 dX6_push_16 (by decide) (fun c12 => ?_) (fun c12 => ?_)
    · replace h := ite_t c12 h
      exact a_vret dX6_push_39 rfl (hR _ _ h)
    · replace h := ite_f c12 h
      refine a_aload_n dX6_push_19 rfl rfl ?_
      refine a_get (v := .ref r4) dX6_push_20 fl_6_26 ga1 gs2 (gvR e5 rfl) ?_
      refine a_aload_n dX6_push_23 rfl rfl ?_
      refine a_get (v := .int (M.2.2.1 a0 6)) dX6_push_24 fl_6_157 ga1 gs2 rfl ?_
      refine a_iload_n dX6_push_27 rfl rfl ?_
      obtain ⟨⟨ga13, gn14, gs15, gi16⟩, h⟩ := gd_t h
      refine a_iastore dX6_push_28 ga13 gs15 gi16 ?_
      refine a_aload_n dX6_push_29 rfl rfl ?_
      refine a_dup dX6_push_30 rfl ?_
      refine a_get (v := .int ((wI M r4 ((M.2.2.1 a0 6).toNatClampNeg) x1).2.2.1 a0 6)) dX6_push_31 fl_6_157 ga1 gs2 rfl ?_
      refine a_iconst (v := 1) dX6_push_34 (by decide) ?_
      refine a_iadd dX6_push_35 ?_
      refine a_putI dX6_push_36 (Or.inl ⟨fl_6_157, Or.inl rfl⟩) rfl ga1 gs2 rfl rfl ?_
      exact a_vret dX6_push_39 rfl (hR _ _ h)
noncomputable def b_X6_push (n : Nat) (a0 : Nat) (x1 : Int32) (M : Mem) : Option (Unit × Mem) := T_X6_push_0 (fun v M => some (v, M)) none n a0 x1 M
set_option maxHeartbeats 4000000 in
set_option maxRecDepth 100000 in
theorem sb_X6_push {X : Nat × (Nat → Int32)} {al : Bool} {n : Nat} {a0 : Nat} {x1 : Int32} {M : Mem} {v : Unit} {M1 : Mem} (h : b_X6_push n a0 x1 M = some (v, M1)) : AE yX6_push cX6_push 2 none al n X [.ref a0, .int x1] M none M1 := by
  refine AM.of false (by decide +kernel) (by intro h; cases h) (Nat.le_of_ble_eq_true rfl) ?_
  have h2 : T_X6_push_0 (fun v2 M2 => some (v2, M2) = some (v, M1)) (none = some (v, M1)) n a0 x1 M := (n_X6_push_0 (fun o => o = some (v, M1)) (fun v M => some (v, M)) none n a0 x1 M).mp h
  have h3 : ((none : Option (Unit × Mem)) = some (v, M1)) = False := eq_false (by intro q; cases q)
  rw [h3] at h2
  exact w_X6_push_0 (fun v2 M2 h => by cases h; exact ⟨rfl, rfl⟩) h2

noncomputable abbrev f_X6_push := b_X6_push
theorem s_X6_push {X : Nat × (Nat → Int32)} {al : Bool} {n : Nat} {a0 : Nat} {x1 : Int32} {M : Mem} {v : Unit} {M1 : Mem} (h : f_X6_push n a0 x1 M = some (v, M1)) : AE yX6_push cX6_push 2 none al n X [.ref a0, .int x1] M none M1 := sb_X6_push h
set_option maxHeartbeats 4000000 in
set_option maxRecDepth 100000 in
noncomputable def T_X6_pop_0.{u} {α : Sort u} (R : Int32 → Mem → α) (N : α) (n : Nat) (a0 : Nat) (M : Mem) : α := gd (fO M a0 6) N (bnd (M.2.2.2.2 a0 5) N (fun r3 => bnd2 (cal n (fun n => f_X10_at n r3 ((wI M a0 6 ((M.2.2.1 a0 6) - 1)).2.2.1 a0 6) (wI M a0 6 ((M.2.2.1 a0 6) - 1)))) N (fun v5 M6 => R v5 M6)))
set_option maxHeartbeats 4000000 in
set_option maxRecDepth 100000 in
theorem n_X6_pop_0.{u, v} {α : Sort u} {β : Sort v} (h : α → β) (R : Int32 → Mem → α) (N : α) (n : Nat) (a0 : Nat) (M : Mem) : h (T_X6_pop_0 R N n a0 M) = T_X6_pop_0 (fun v M => h (R v M)) (h N) n a0 M := by
  simp only [T_X6_pop_0, nat_ite h, nat_gd h, nat_bnd h, nat_bnd2 h]
set_option maxHeartbeats 4000000 in
set_option maxRecDepth 100000 in
theorem w_X6_pop_0 {X : Nat × (Nat → Int32)} {al : Bool} {n : Nat} {Q : Option Value → Mem → Prop} {R : Int32 → Mem → Prop} (hR : ∀ v M, R v M → Q (some (.int v)) M) {a0 : Nat} {M : Mem} (h : T_X6_pop_0 R False n a0 M) : AW X (RX6, cX6_pop, 1, (some .int), false, al, n) 0 0 0 [(0, .ref a0)] [] M Q := by
  unfold T_X6_pop_0 at h
  refine a_aload_n dX6_pop_0 rfl rfl ?_
  refine a_dup dX6_pop_1 rfl ?_
  obtain ⟨⟨ga1, gs2⟩, h⟩ := gd_t h
  refine a_get (v := .int (M.2.2.1 a0 6)) dX6_pop_2 fl_6_157 ga1 gs2 rfl ?_
  refine a_iconst (v := 1) dX6_pop_5 (by decide) ?_
  refine a_isub dX6_pop_6 ?_
  refine a_putI dX6_pop_7 (Or.inl ⟨fl_6_157, Or.inl rfl⟩) rfl ga1 gs2 rfl rfl ?_
  refine a_aload_n dX6_pop_10 rfl rfl ?_
  obtain ⟨r3, e4, h⟩ := bnd_t h
  refine a_get (v := .ref r3) dX6_pop_11 fl_6_26 ga1 gs2 (gvR e4 rfl) ?_
  refine a_aload_n dX6_pop_14 rfl rfl ?_
  refine a_get (v := .int ((wI M a0 6 ((M.2.2.1 a0 6) - 1)).2.2.1 a0 6)) dX6_pop_15 fl_6_157 ga1 gs2 rfl ?_
  obtain ⟨v5, M6, e7, h⟩ := bnd2_t h
  obtain ⟨n8, en9, e7⟩ := cal_t e7
  refine e_callS (As := [.ref r3, .int ((wI M a0 6 ((M.2.2.1 a0 6) - 1)).2.2.1 a0 6)]) (st := []) true dX6_pop_18 mw_X10_at (Or.inr ⟨rfl, mn_X6_144⟩) sm_X10_at rfl (Nat.le_of_ble_eq_true rfl) en9 (s_X10_at e7) ?_
  exact a_iret dX6_pop_21 rfl (hR _ _ h)
noncomputable def b_X6_pop (n : Nat) (a0 : Nat) (M : Mem) : Option (Int32 × Mem) := T_X6_pop_0 (fun v M => some (v, M)) none n a0 M
set_option maxHeartbeats 4000000 in
set_option maxRecDepth 100000 in
theorem sb_X6_pop {X : Nat × (Nat → Int32)} {al : Bool} {n : Nat} {a0 : Nat} {M : Mem} {v : Int32} {M1 : Mem} (h : b_X6_pop n a0 M = some (v, M1)) : AE yX6_pop cX6_pop 1 (some .int) al n X [.ref a0] M (some (.int v)) M1 := by
  refine AM.of false (by decide +kernel) (by intro h; cases h) (Nat.le_of_ble_eq_true rfl) ?_
  have h2 : T_X6_pop_0 (fun v2 M2 => some (v2, M2) = some (v, M1)) (none = some (v, M1)) n a0 M := (n_X6_pop_0 (fun o => o = some (v, M1)) (fun v M => some (v, M)) none n a0 M).mp h
  have h3 : ((none : Option (Int32 × Mem)) = some (v, M1)) = False := eq_false (by intro q; cases q)
  rw [h3] at h2
  exact w_X6_pop_0 (fun v2 M2 h => by cases h; exact ⟨rfl, rfl⟩) h2

noncomputable abbrev f_X6_pop := b_X6_pop
theorem s_X6_pop {X : Nat × (Nat → Int32)} {al : Bool} {n : Nat} {a0 : Nat} {M : Mem} {v : Int32} {M1 : Mem} (h : f_X6_pop n a0 M = some (v, M1)) : AE yX6_pop cX6_pop 1 (some .int) al n X [.ref a0] M (some (.int v)) M1 := sb_X6_pop h
set_option maxHeartbeats 4000000 in
set_option maxRecDepth 100000 in
noncomputable def T_X9_tell_0.{u} {α : Sort u} (R : Unit → Mem → α) (N : α) (n : Nat) (a0 : Nat) (x1 : Int32) (x2 : Int32) (M : Mem) : α := if x1 < 0 then R () M else gd (fO M a0 9) N (if (M.2.2.1 a0 2) ≤ x1 then R () M else bnd (M.2.2.2.2 a0 1) N (fun r5 => gd (fA M r5 1 x1) N (R () (wI M r5 (x1.toNatClampNeg) x2))))
set_option maxHeartbeats 4000000 in
set_option maxRecDepth 100000 in
theorem n_X9_tell_0.{u, v} {α : Sort u} {β : Sort v} (h : α → β) (R : Unit → Mem → α) (N : α) (n : Nat) (a0 : Nat) (x1 : Int32) (x2 : Int32) (M : Mem) : h (T_X9_tell_0 R N n a0 x1 x2 M) = T_X9_tell_0 (fun v M => h (R v M)) (h N) n a0 x1 x2 M := by
  simp only [T_X9_tell_0, nat_ite h, nat_gd h, nat_bnd h, nat_bnd2 h]
set_option maxHeartbeats 4000000 in
set_option maxRecDepth 100000 in
theorem w_X9_tell_0 {X : Nat × (Nat → Int32)} {al : Bool} {n : Nat} {Q : Option Value → Mem → Prop} {R : Unit → Mem → Prop} (hR : ∀ v M, R v M → Q none M) {a0 : Nat} {x1 : Int32} {x2 : Int32} {M : Mem} (h : T_X9_tell_0 R False n a0 x1 x2 M) : AW X (RX9, cX9_tell, 3, none, false, al, n) 0 0 0 [(0, .ref a0), (1, .int x1), (2, .int x2)] [] M Q := by
  unfold T_X9_tell_0 at h
  refine a_iload_n dX9_tell_0 rfl rfl ?_
  refine a_if_lt 19 dX9_tell_1 (by decide) (fun c1 => ?_) (fun c1 => ?_)
  · replace h := ite_t c1 h
    exact a_vret dX9_tell_19 rfl (hR _ _ h)
  · replace h := ite_f c1 h
    refine a_iload_n dX9_tell_4 rfl rfl ?_
    refine a_aload_n dX9_tell_5 rfl rfl ?_
    obtain ⟨⟨ga2, gs3⟩, h⟩ := gd_t h
    refine a_get (v := .int (M.2.2.1 a0 2)) dX9_tell_6 fl_9_18 ga2 gs3 rfl ?_
    refine a_icmp_ge 19 dX9_tell_9 (by decide) (fun c4 => ?_) (fun c4 => ?_)
    · replace h := ite_t c4 h
      exact a_vret dX9_tell_19 rfl (hR _ _ h)
    · replace h := ite_f c4 h
      refine a_aload_n dX9_tell_12 rfl rfl ?_
      obtain ⟨r5, e6, h⟩ := bnd_t h
      refine a_get (v := .ref r5) dX9_tell_13 fl_9_15 ga2 gs3 (gvR e6 rfl) ?_
      refine a_iload_n dX9_tell_16 rfl rfl ?_
      refine a_iload_n dX9_tell_17 rfl rfl ?_
      obtain ⟨⟨ga7, gn8, gs9, gi10⟩, h⟩ := gd_t h
      refine a_iastore dX9_tell_18 ga7 gs9 gi10 ?_
      exact a_vret dX9_tell_19 rfl (hR _ _ h)
noncomputable def b_X9_tell (n : Nat) (a0 : Nat) (x1 : Int32) (x2 : Int32) (M : Mem) : Option (Unit × Mem) := T_X9_tell_0 (fun v M => some (v, M)) none n a0 x1 x2 M
set_option maxHeartbeats 4000000 in
set_option maxRecDepth 100000 in
theorem sb_X9_tell {X : Nat × (Nat → Int32)} {al : Bool} {n : Nat} {a0 : Nat} {x1 : Int32} {x2 : Int32} {M : Mem} {v : Unit} {M1 : Mem} (h : b_X9_tell n a0 x1 x2 M = some (v, M1)) : AE yX9_tell cX9_tell 3 none al n X [.ref a0, .int x1, .int x2] M none M1 := by
  refine AM.of false (by decide +kernel) (by intro h; cases h) (Nat.le_of_ble_eq_true rfl) ?_
  have h2 : T_X9_tell_0 (fun v2 M2 => some (v2, M2) = some (v, M1)) (none = some (v, M1)) n a0 x1 x2 M := (n_X9_tell_0 (fun o => o = some (v, M1)) (fun v M => some (v, M)) none n a0 x1 x2 M).mp h
  have h3 : ((none : Option (Unit × Mem)) = some (v, M1)) = False := eq_false (by intro q; cases q)
  rw [h3] at h2
  exact w_X9_tell_0 (fun v2 M2 h => by cases h; exact ⟨rfl, rfl⟩) h2

noncomputable abbrev f_X9_tell := b_X9_tell
theorem s_X9_tell {X : Nat × (Nat → Int32)} {al : Bool} {n : Nat} {a0 : Nat} {x1 : Int32} {x2 : Int32} {M : Mem} {v : Unit} {M1 : Mem} (h : f_X9_tell n a0 x1 x2 M = some (v, M1)) : AE yX9_tell cX9_tell 3 none al n X [.ref a0, .int x1, .int x2] M none M1 := sb_X9_tell h
set_option maxHeartbeats 4000000 in
set_option maxRecDepth 100000 in
noncomputable def T_X6_readBinder_0.{u} {α : Sort u} (R : Int32 → Mem → α) (N : α) (n : Nat) (a0 : Nat) (M : Mem) : α := gd (fO M a0 6) N (bnd2 (cal n (fun n => f_X6_advance n a0 M)) N (fun _ M3 => gd (fO M3 a0 6) N (bnd2 (cal n (fun n => f_X6_atName n a0 M3)) N (fun v9 M10 => if v9 = 0 then gd (fO M10 a0 6) N (bnd2 (cal n (fun n => f_X6_fail n a0 1 (M10.2.2.1 a0 12) M10)) N (fun v46 M47 => gd (narrow .boolean (.int v46) = .int v46) N (R v46 M47))) else gd (fO M10 a0 6) N (if (M10.2.2.1 a0 8) < 0 then bnd2 (cal n (fun n => f_X6_fail n a0 4 (M10.2.2.1 a0 12) M10)) N (fun v18 M19 => gd (narrow .boolean (.int v18) = .int v18) N (R v18 M19)) else if (M10.2.2.1 a0 8) < 24 then bnd (M10.2.2.2.2 a0 7) N (fun r25 => bnd2 (cal n (fun n => f_X6_nameRead n a0 M10)) N (fun v27 M28 => gd (fA M28 r25 1 (M10.2.2.1 a0 8)) N (gd (fO M28 a0 6) N (R 1 (wI (wI M28 r25 ((M10.2.2.1 a0 8).toNatClampNeg) v27) a0 8 (((wI M28 r25 ((M10.2.2.1 a0 8).toNatClampNeg) v27).2.2.1 a0 8) + 1)))))) else bnd2 (cal n (fun n => f_X6_fail n a0 4 (M10.2.2.1 a0 12) M10)) N (fun v38 M39 => gd (narrow .boolean (.int v38) = .int v38) N (R v38 M39)))))))
set_option maxHeartbeats 4000000 in
set_option maxRecDepth 100000 in
theorem n_X6_readBinder_0.{u, v} {α : Sort u} {β : Sort v} (h : α → β) (R : Int32 → Mem → α) (N : α) (n : Nat) (a0 : Nat) (M : Mem) : h (T_X6_readBinder_0 R N n a0 M) = T_X6_readBinder_0 (fun v M => h (R v M)) (h N) n a0 M := by
  simp only [T_X6_readBinder_0, nat_ite h, nat_gd h, nat_bnd h, nat_bnd2 h]
set_option maxHeartbeats 4000000 in
set_option maxRecDepth 100000 in
theorem w_X6_readBinder_0 {X : Nat × (Nat → Int32)} {al : Bool} {n : Nat} {Q : Option Value → Mem → Prop} {R : Int32 → Mem → Prop} (hR : ∀ v M, R v M → Q (some (.int v)) M) {a0 : Nat} {M : Mem} (h : T_X6_readBinder_0 R False n a0 M) : AW X (RX6, cX6_readBinder, 1, (some .boolean), false, al, n) 0 0 0 [(0, .ref a0)] [] M Q := by
  unfold T_X6_readBinder_0 at h
  refine a_aload_n dX6_readBinder_0 rfl rfl ?_
  obtain ⟨⟨ga1, gs2⟩, h⟩ := gd_t h
  obtain ⟨_, M3, e4, h⟩ := bnd2_t h
  obtain ⟨n5, en6, e4⟩ := cal_t e4
  refine e_callV (As := []) (st := []) (a := a0) (ci := 6) false dX6_readBinder_1 mw_X6_advance (Or.inl ⟨rfl, ml_X6_97⟩) im_X6_advance se_X6_advance (by decide) ga1 gs2 rfl (Nat.le_of_ble_eq_true rfl) en6 (s_X6_advance e4) ?_
  refine a_aload_n dX6_readBinder_4 rfl rfl ?_
  obtain ⟨⟨ga7, gs8⟩, h⟩ := gd_t h
  obtain ⟨v9, M10, e11, h⟩ := bnd2_t h
  obtain ⟨n12, en13, e11⟩ := cal_t e11
  refine e_callV (As := []) (st := []) (a := a0) (ci := 6) false dX6_readBinder_5 mw_X6_atName (Or.inl ⟨rfl, ml_X6_104⟩) im_X6_atName se_X6_atName (by decide) ga7 gs8 rfl (Nat.le_of_ble_eq_true rfl) en13 (s_X6_atName e11) ?_
  refine a_if_ne 21 dX6_readBinder_8 (by decide) (fun c14 => ?_) (fun c14 => ?_)
  · replace h := ite_f c14 h
    refine a_aload_n dX6_readBinder_21 rfl rfl ?_
    obtain ⟨⟨ga15, gs16⟩, h⟩ := gd_t h
    refine a_get (v := .int (M10.2.2.1 a0 8)) dX6_readBinder_22 fl_6_160 ga15 gs16 rfl ?_
    refine a_if_lt 37 dX6_readBinder_25 (by decide) (fun c17 => ?_) (fun c17 => ?_)
    · replace h := ite_t c17 h
      refine a_aload_n dX6_readBinder_37 rfl rfl ?_
      refine a_iconst (v := 4) dX6_readBinder_38 (by decide) ?_
      refine a_aload_n dX6_readBinder_39 rfl rfl ?_
      refine a_get (v := .int (M10.2.2.1 a0 12)) dX6_readBinder_40 fl_6_68 ga15 gs16 rfl ?_
      obtain ⟨v18, M19, e20, h⟩ := bnd2_t h
      obtain ⟨n21, en22, e20⟩ := cal_t e20
      refine e_callV (As := [.int 4, .int (M10.2.2.1 a0 12)]) (st := []) (a := a0) (ci := 6) false dX6_readBinder_43 mw_X6_fail (Or.inl ⟨rfl, ml_X6_107⟩) im_X6_fail se_X6_fail (by decide) ga15 gs16 rfl (Nat.le_of_ble_eq_true rfl) en22 (s_X6_fail e20) ?_
      obtain ⟨gb23, h⟩ := gd_t h
      exact a_zret dX6_readBinder_46 rfl gb23 (hR _ _ h)
    · replace h := ite_f c17 h
      refine a_aload_n dX6_readBinder_28 rfl rfl ?_
      refine a_get (v := .int (M10.2.2.1 a0 8)) dX6_readBinder_29 fl_6_160 ga15 gs16 rfl ?_
      refine a_bipush (v := 24) dX6_readBinder_32 (by decide) ?_
      refine a_icmp_lt 47 dX6_readBinder_34 (by decide) (fun c24 => ?_) (fun c24 => ?_)
      · replace h := ite_t c24 h
        refine a_aload_n dX6_readBinder_47 rfl rfl ?_
        obtain ⟨r25, e26, h⟩ := bnd_t h
        refine a_get (v := .ref r25) dX6_readBinder_48 fl_6_29 ga15 gs16 (gvR e26 rfl) ?_
        refine a_aload_n dX6_readBinder_51 rfl rfl ?_
        refine a_get (v := .int (M10.2.2.1 a0 8)) dX6_readBinder_52 fl_6_160 ga15 gs16 rfl ?_
        refine a_aload_n dX6_readBinder_55 rfl rfl ?_
        obtain ⟨v27, M28, e29, h⟩ := bnd2_t h
        obtain ⟨n30, en31, e29⟩ := cal_t e29
        refine e_callV (As := []) (st := [.int (M10.2.2.1 a0 8), .ref r25]) (a := a0) (ci := 6) false dX6_readBinder_56 mw_X6_nameRead (Or.inl ⟨rfl, ml_X6_111⟩) im_X6_nameRead se_X6_nameRead (by decide) ga15 gs16 rfl (Nat.le_of_ble_eq_true rfl) en31 (s_X6_nameRead e29) ?_
        obtain ⟨⟨ga32, gn33, gs34, gi35⟩, h⟩ := gd_t h
        refine a_iastore dX6_readBinder_59 ga32 gs34 gi35 ?_
        refine a_aload_n dX6_readBinder_60 rfl rfl ?_
        refine a_dup dX6_readBinder_61 rfl ?_
        obtain ⟨⟨ga36, gs37⟩, h⟩ := gd_t h
        refine a_get (v := .int ((wI M28 r25 ((M10.2.2.1 a0 8).toNatClampNeg) v27).2.2.1 a0 8)) dX6_readBinder_62 fl_6_160 ga36 gs37 rfl ?_
        refine a_iconst (v := 1) dX6_readBinder_65 (by decide) ?_
        refine a_iadd dX6_readBinder_66 ?_
        refine a_putI dX6_readBinder_67 (Or.inl ⟨fl_6_160, Or.inl rfl⟩) rfl ga36 gs37 rfl rfl ?_
        refine a_iconst (v := 1) dX6_readBinder_70 (by decide) ?_
        exact a_zret dX6_readBinder_71 rfl rfl (hR _ _ h)
      · replace h := ite_f c24 h
        refine a_aload_n dX6_readBinder_37 rfl rfl ?_
        refine a_iconst (v := 4) dX6_readBinder_38 (by decide) ?_
        refine a_aload_n dX6_readBinder_39 rfl rfl ?_
        refine a_get (v := .int (M10.2.2.1 a0 12)) dX6_readBinder_40 fl_6_68 ga15 gs16 rfl ?_
        obtain ⟨v38, M39, e40, h⟩ := bnd2_t h
        obtain ⟨n41, en42, e40⟩ := cal_t e40
        refine e_callV (As := [.int 4, .int (M10.2.2.1 a0 12)]) (st := []) (a := a0) (ci := 6) false dX6_readBinder_43 mw_X6_fail (Or.inl ⟨rfl, ml_X6_107⟩) im_X6_fail se_X6_fail (by decide) ga15 gs16 rfl (Nat.le_of_ble_eq_true rfl) en42 (s_X6_fail e40) ?_
        obtain ⟨gb43, h⟩ := gd_t h
        exact a_zret dX6_readBinder_46 rfl gb43 (hR _ _ h)
  · replace h := ite_t c14 h
    refine a_aload_n dX6_readBinder_11 rfl rfl ?_
    refine a_iconst (v := 1) dX6_readBinder_12 (by decide) ?_
    refine a_aload_n dX6_readBinder_13 rfl rfl ?_
    obtain ⟨⟨ga44, gs45⟩, h⟩ := gd_t h
    refine a_get (v := .int (M10.2.2.1 a0 12)) dX6_readBinder_14 fl_6_68 ga44 gs45 rfl ?_
    obtain ⟨v46, M47, e48, h⟩ := bnd2_t h
    obtain ⟨n49, en50, e48⟩ := cal_t e48
    refine e_callV (As := [.int 1, .int (M10.2.2.1 a0 12)]) (st := []) (a := a0) (ci := 6) false dX6_readBinder_17 mw_X6_fail (Or.inl ⟨rfl, ml_X6_107⟩) im_X6_fail se_X6_fail (by decide) ga44 gs45 rfl (Nat.le_of_ble_eq_true rfl) en50 (s_X6_fail e48) ?_
    obtain ⟨gb51, h⟩ := gd_t h
    exact a_zret dX6_readBinder_20 rfl gb51 (hR _ _ h)
noncomputable def b_X6_readBinder (n : Nat) (a0 : Nat) (M : Mem) : Option (Int32 × Mem) := T_X6_readBinder_0 (fun v M => some (v, M)) none n a0 M
set_option maxHeartbeats 4000000 in
set_option maxRecDepth 100000 in
theorem sb_X6_readBinder {X : Nat × (Nat → Int32)} {al : Bool} {n : Nat} {a0 : Nat} {M : Mem} {v : Int32} {M1 : Mem} (h : b_X6_readBinder n a0 M = some (v, M1)) : AE yX6_readBinder cX6_readBinder 1 (some .boolean) al n X [.ref a0] M (some (.int v)) M1 := by
  refine AM.of false (by decide +kernel) (by intro h; cases h) (Nat.le_of_ble_eq_true rfl) ?_
  have h2 : T_X6_readBinder_0 (fun v2 M2 => some (v2, M2) = some (v, M1)) (none = some (v, M1)) n a0 M := (n_X6_readBinder_0 (fun o => o = some (v, M1)) (fun v M => some (v, M)) none n a0 M).mp h
  have h3 : ((none : Option (Int32 × Mem)) = some (v, M1)) = False := eq_false (by intro q; cases q)
  rw [h3] at h2
  exact w_X6_readBinder_0 (fun v2 M2 h => by cases h; exact ⟨rfl, rfl⟩) h2

noncomputable abbrev f_X6_readBinder := b_X6_readBinder
theorem s_X6_readBinder {X : Nat × (Nat → Int32)} {al : Bool} {n : Nat} {a0 : Nat} {M : Mem} {v : Int32} {M1 : Mem} (h : f_X6_readBinder n a0 M = some (v, M1)) : AE yX6_readBinder cX6_readBinder 1 (some .boolean) al n X [.ref a0] M (some (.int v)) M1 := sb_X6_readBinder h
def ix_X6_meaning (c : Nat) : List Nat := if c = 0 then [0, 1, 2] else if c = 12 then [0, 1, 2, 3] else []
def PW_X6_meaning (X : Nat × (Nat → Int32)) (al : Bool) (n : Nat) (Q : Option Value → Mem → Prop) (c : Nat) (l : List Value) (M : Mem) : Prop := AW X (RX6, cX6_meaning, 4, (some .int), false, al, n) 0 0 c (List.zip (ix_X6_meaning c) l) (l.drop (ix_X6_meaning c).length) M Q
set_option maxHeartbeats 4000000 in
set_option maxRecDepth 100000 in
noncomputable def T_X6_meaning_0.{u} {α : Sort u} (J : Nat → List Value → Mem → α) (R : Int32 → Mem → α) (N : α) (n : Nat) (a0 : Nat) (x1 : Int32) (a2 : Nat) (M : Mem) : α := gd (fO M a0 6) N (gd (1 ≤ n) N (J 12 [.ref a0, .int x1, .ref a2, .int ((if 24 < (M.2.2.1 a0 8) then 24 else (M.2.2.1 a0 8)) - 1)] M))
set_option maxHeartbeats 4000000 in
set_option maxRecDepth 100000 in
theorem n_X6_meaning_0.{u, v} {α : Sort u} {β : Sort v} (h : α → β) (J : Nat → List Value → Mem → α) (R : Int32 → Mem → α) (N : α) (n : Nat) (a0 : Nat) (x1 : Int32) (a2 : Nat) (M : Mem) : h (T_X6_meaning_0 J R N n a0 x1 a2 M) = T_X6_meaning_0 (fun c l M => h (J c l M)) (fun v M => h (R v M)) (h N) n a0 x1 a2 M := by
  simp only [T_X6_meaning_0, nat_ite h, nat_gd h, nat_bnd h, nat_bnd2 h]
set_option maxHeartbeats 4000000 in
set_option maxRecDepth 100000 in
theorem w_X6_meaning_0 {X : Nat × (Nat → Int32)} {al : Bool} {n : Nat} {Q : Option Value → Mem → Prop} {J : Nat → List Value → Mem → Prop} (hJ : ∀ c l M, J c l M → PW_X6_meaning X al n Q c l M) {R : Int32 → Mem → Prop} (hR : ∀ v M, R v M → Q (some (.int v)) M) {a0 : Nat} {x1 : Int32} {a2 : Nat} {M : Mem} (h : T_X6_meaning_0 J R False n a0 x1 a2 M) : AW X (RX6, cX6_meaning, 4, (some .int), false, al, n) 0 0 0 [(0, .ref a0), (1, .int x1), (2, .ref a2)] [] M Q := by
  unfold T_X6_meaning_0 at h
  refine a_aload_n dX6_meaning_0 rfl rfl ?_
  obtain ⟨⟨ga1, gs2⟩, h⟩ := gd_t h
  refine a_get (v := .int (M.2.2.1 a0 8)) dX6_meaning_1 fl_6_160 ga1 gs2 rfl ?_
  refine a_bipush (v := 24) dX6_meaning_4 (by decide) ?_
  obtain ⟨gf3, h⟩ := gd_t h
  refine a_mmin dX6_meaning_6 mm_X6_54 mmin_s ini_Math mmin_c gf3 (Nat.le_of_ble_eq_true rfl) ?_
  refine a_iconst (v := 1) dX6_meaning_9 (by decide) ?_
  refine a_isub dX6_meaning_10 ?_
  refine a_istore_n dX6_meaning_11 rfl (Nat.le_of_ble_eq_true rfl) (lv2 := [(3, .int ((if 24 < (M.2.2.1 a0 8) then 24 else (M.2.2.1 a0 8)) - 1)), (0, .ref a0), (1, .int x1), (2, .ref a2)]) rfl ?_
  exact a_lv (lv2 := [(0, .ref a0), (1, .int x1), (2, .ref a2), (3, .int ((if 24 < (M.2.2.1 a0 8) then 24 else (M.2.2.1 a0 8)) - 1))]) (fa_cons rfl (fa_cons rfl (fa_cons rfl (fa_cons rfl fa_nil)))) (hJ _ _ _ h)
set_option maxHeartbeats 4000000 in
set_option maxRecDepth 100000 in
noncomputable def T_X6_meaning_12.{u} {α : Sort u} (J : Nat → List Value → Mem → α) (R : Int32 → Mem → α) (N : α) (n : Nat) (a0 : Nat) (x1 : Int32) (a2 : Nat) (x3 : Int32) (M : Mem) : α := if x3 < 0 then gd (fO M a2 2) N (bnd2 (cal n (fun n => f_X2_find n a2 x1 M)) N (fun v4 M5 => if v4 = (-1) then R 24 M5 else R ((-1) - v4) M5)) else gd (fO M a0 6) N (bnd (M.2.2.2.2 a0 7) N (fun r12 => gd (fA M r12 1 x3) N (if (M.2.2.1 r12 (x3.toNatClampNeg)) = x1 then R x3 M else J 12 [.ref a0, .int x1, .ref a2, .int (x3 + (-1))] M)))
set_option maxHeartbeats 4000000 in
set_option maxRecDepth 100000 in
theorem n_X6_meaning_12.{u, v} {α : Sort u} {β : Sort v} (h : α → β) (J : Nat → List Value → Mem → α) (R : Int32 → Mem → α) (N : α) (n : Nat) (a0 : Nat) (x1 : Int32) (a2 : Nat) (x3 : Int32) (M : Mem) : h (T_X6_meaning_12 J R N n a0 x1 a2 x3 M) = T_X6_meaning_12 (fun c l M => h (J c l M)) (fun v M => h (R v M)) (h N) n a0 x1 a2 x3 M := by
  simp only [T_X6_meaning_12, nat_ite h, nat_gd h, nat_bnd h, nat_bnd2 h]
set_option maxHeartbeats 4000000 in
set_option maxRecDepth 100000 in
theorem w_X6_meaning_12 {X : Nat × (Nat → Int32)} {al : Bool} {n : Nat} {Q : Option Value → Mem → Prop} {J : Nat → List Value → Mem → Prop} (hJ : ∀ c l M, J c l M → PW_X6_meaning X al n Q c l M) {R : Int32 → Mem → Prop} (hR : ∀ v M, R v M → Q (some (.int v)) M) {a0 : Nat} {x1 : Int32} {a2 : Nat} {x3 : Int32} {M : Mem} (h : T_X6_meaning_12 J R False n a0 x1 a2 x3 M) : AW X (RX6, cX6_meaning, 4, (some .int), false, al, n) 0 0 12 [(0, .ref a0), (1, .int x1), (2, .ref a2), (3, .int x3)] [] M Q := by
  unfold T_X6_meaning_12 at h
  refine a_iload_n dX6_meaning_12 rfl rfl ?_
  refine a_if_lt 34 dX6_meaning_13 (by decide) (fun c1 => ?_) (fun c1 => ?_)
  · replace h := ite_t c1 h
    refine a_aload_n dX6_meaning_34 rfl rfl ?_
    refine a_iload_n dX6_meaning_35 rfl rfl ?_
    obtain ⟨⟨ga2, gs3⟩, h⟩ := gd_t h
    obtain ⟨v4, M5, e6, h⟩ := bnd2_t h
    obtain ⟨n7, en8, e6⟩ := cal_t e6
    refine e_callV (As := [.int x1]) (st := []) (a := a2) (ci := 2) false dX6_meaning_36 mw_X2_find (Or.inl ⟨rfl, ml_X6_117⟩) im_X2_find se_X2_find (by decide) ga2 gs3 rfl (Nat.le_of_ble_eq_true rfl) en8 (s_X2_find e6) ?_
    refine a_istore_n dX6_meaning_39 rfl (Nat.le_of_ble_eq_true rfl) (lv2 := [(3, .int v4), (0, .ref a0), (1, .int x1), (2, .ref a2)]) rfl ?_
    refine a_iload_n dX6_meaning_40 rfl rfl ?_
    refine a_iconst (v := -1) dX6_meaning_41 (by decide) ?_
    refine a_icmp_ne 50 dX6_meaning_42 (by decide) (fun c9 => ?_) (fun c9 => ?_)
    · replace h := ite_f c9 h
      refine a_iconst (v := -1) dX6_meaning_50 (by decide) ?_
      refine a_iload_n dX6_meaning_51 rfl rfl ?_
      refine a_isub dX6_meaning_52 ?_
      exact a_iret dX6_meaning_53 rfl (hR _ _ h)
    · replace h := ite_t c9 h
      refine a_bipush (v := 24) dX6_meaning_45 (by decide) ?_
      refine a_goto 53 dX6_meaning_47 (by decide) ?_
      exact a_iret dX6_meaning_53 rfl (hR _ _ h)
  · replace h := ite_f c1 h
    refine a_aload_n dX6_meaning_16 rfl rfl ?_
    obtain ⟨⟨ga10, gs11⟩, h⟩ := gd_t h
    obtain ⟨r12, e13, h⟩ := bnd_t h
    refine a_get (v := .ref r12) dX6_meaning_17 fl_6_29 ga10 gs11 (gvR e13 rfl) ?_
    refine a_iload_n dX6_meaning_20 rfl rfl ?_
    obtain ⟨⟨ga14, gn15, gs16, gi17⟩, h⟩ := gd_t h
    refine a_iaload dX6_meaning_21 ga14 gs16 gi17 ?_
    refine a_iload_n dX6_meaning_22 rfl rfl ?_
    refine a_icmp_ne 28 dX6_meaning_23 (by decide) (fun c18 => ?_) (fun c18 => ?_)
    · replace h := ite_f c18 h
      refine a_iinc (v := (x3 + (-1))) dX6_meaning_28 rfl (by first | rfl | decide) (Nat.le_of_ble_eq_true rfl) (lv2 := [(3, .int (x3 + (-1))), (0, .ref a0), (1, .int x1), (2, .ref a2)]) rfl ?_
      refine a_goto 12 dX6_meaning_31 (by decide) ?_
      exact a_lv (lv2 := [(0, .ref a0), (1, .int x1), (2, .ref a2), (3, .int (x3 + (-1)))]) (fa_cons rfl (fa_cons rfl (fa_cons rfl (fa_cons rfl fa_nil)))) (hJ _ _ _ h)
    · replace h := ite_t c18 h
      refine a_iload_n dX6_meaning_26 rfl rfl ?_
      exact a_iret dX6_meaning_27 rfl (hR _ _ h)
set_option maxHeartbeats 4000000 in
set_option maxRecDepth 100000 in
noncomputable def st_X6_meaning (n : Nat) (s : Sg) : Option (Sg ⊕ (Int32 × Mem)) := if s.1 = 0 then vR s.2.1 none (fun a0 t => vI t none (fun x1 t => vR t none (fun a2 t => vE t none (T_X6_meaning_0 (fun c l M => some (.inl (c, l, M))) (fun v M => some (.inr (v, M))) none n a0 x1 a2 s.2.2)))) else if s.1 = 12 then vR s.2.1 none (fun a0 t => vI t none (fun x1 t => vR t none (fun a2 t => vI t none (fun x3 t => vE t none (T_X6_meaning_12 (fun c l M => some (.inl (c, l, M))) (fun v M => some (.inr (v, M))) none n a0 x1 a2 x3 s.2.2))))) else none
noncomputable abbrev g_X6_meaning_0 (n : Nat) (a0 : Nat) (x1 : Int32) (a2 : Nat) (M : Mem) : Option (Int32 × Mem) := lp (st_X6_meaning n) (0, [.ref a0, .int x1, .ref a2], M)
set_option maxHeartbeats 4000000 in
set_option maxRecDepth 100000 in
theorem ge_X6_meaning_0 (n : Nat) (a0 : Nat) (x1 : Int32) (a2 : Nat) (M : Mem) : g_X6_meaning_0 n a0 x1 a2 M = T_X6_meaning_0 (fun c l M => lp (st_X6_meaning n) (c, l, M)) (fun v M => some (v, M)) none n a0 x1 a2 M := (lp_eq _ _).trans (n_X6_meaning_0 (lpK (st_X6_meaning n)) (fun c l M => some (.inl (c, l, M))) (fun v M => some (.inr (v, M))) none n a0 x1 a2 M)
noncomputable abbrev g_X6_meaning_12 (n : Nat) (a0 : Nat) (x1 : Int32) (a2 : Nat) (x3 : Int32) (M : Mem) : Option (Int32 × Mem) := lp (st_X6_meaning n) (12, [.ref a0, .int x1, .ref a2, .int x3], M)
set_option maxHeartbeats 4000000 in
set_option maxRecDepth 100000 in
theorem ge_X6_meaning_12 (n : Nat) (a0 : Nat) (x1 : Int32) (a2 : Nat) (x3 : Int32) (M : Mem) : g_X6_meaning_12 n a0 x1 a2 x3 M = T_X6_meaning_12 (fun c l M => lp (st_X6_meaning n) (c, l, M)) (fun v M => some (v, M)) none n a0 x1 a2 x3 M := (lp_eq _ _).trans (n_X6_meaning_12 (lpK (st_X6_meaning n)) (fun c l M => some (.inl (c, l, M))) (fun v M => some (.inr (v, M))) none n a0 x1 a2 x3 M)
noncomputable def b_X6_meaning (n : Nat) (a0 : Nat) (x1 : Int32) (a2 : Nat) (M : Mem) : Option (Int32 × Mem) := g_X6_meaning_0 n a0 x1 a2 M
set_option maxHeartbeats 4000000 in
set_option maxRecDepth 100000 in
theorem sb_X6_meaning {X : Nat × (Nat → Int32)} {al : Bool} {n : Nat} {a0 : Nat} {x1 : Int32} {a2 : Nat} {M : Mem} {v : Int32} {M1 : Mem} (h : b_X6_meaning n a0 x1 a2 M = some (v, M1)) : AE yX6_meaning cX6_meaning 4 (some .int) al n X [.ref a0, .int x1, .ref a2] M (some (.int v)) M1 := by
  refine AM.of false (by decide +kernel) (by intro h; cases h) (Nat.le_of_ble_eq_true rfl) ?_
  refine lp_snd (P := fun s r => PW_X6_meaning X al n (fun v M2 => v = (some (.int r.1)) ∧ M2 = r.2) s.1 s.2.1 s.2.2) ?_ h
  clear h
  rintro ⟨c, l, M⟩ r h
  unfold st_X6_meaning at h
  rcases ite_p h with ⟨e, h⟩ | ⟨e, h⟩
  · replace e : c = 0 := e
    subst e
    obtain ⟨a0, tt0, e, h⟩ := vR_p id h
    replace e : l = _ := e
    subst e
    obtain ⟨x1, tt1, e, h⟩ := vI_p id h
    replace e : tt0 = _ := e
    subst e
    obtain ⟨a2, tt2, e, h⟩ := vR_p id h
    replace e : tt1 = _ := e
    subst e
    obtain ⟨e, h⟩ := vE_p id h
    replace e : tt2 = [] := e
    subst e
    exact w_X6_meaning_0 (J := fun c l M => PW_X6_meaning X al n (fun v M2 => v = (some (.int r.1)) ∧ M2 = r.2) c l M) (R := fun v M => (v, M) = r) (fun _ _ _ h => h) (fun v M h => by cases h; exact ⟨rfl, rfl⟩) ((n_X6_meaning_0 (lpP (fun (s : Sg) (r : Int32 × Mem) => PW_X6_meaning X al n (fun v M2 => v = (some (.int r.1)) ∧ M2 = r.2) s.1 s.2.1 s.2.2) r) (fun c l M => some (.inl (c, l, M))) (fun v M => some (.inr (v, M))) none n a0 x1 a2 M).mp h)
  rcases ite_p h with ⟨e, h⟩ | ⟨e, h⟩
  · replace e : c = 12 := e
    subst e
    obtain ⟨a0, tt0, e, h⟩ := vR_p id h
    replace e : l = _ := e
    subst e
    obtain ⟨x1, tt1, e, h⟩ := vI_p id h
    replace e : tt0 = _ := e
    subst e
    obtain ⟨a2, tt2, e, h⟩ := vR_p id h
    replace e : tt1 = _ := e
    subst e
    obtain ⟨x3, tt3, e, h⟩ := vI_p id h
    replace e : tt2 = _ := e
    subst e
    obtain ⟨e, h⟩ := vE_p id h
    replace e : tt3 = [] := e
    subst e
    exact w_X6_meaning_12 (J := fun c l M => PW_X6_meaning X al n (fun v M2 => v = (some (.int r.1)) ∧ M2 = r.2) c l M) (R := fun v M => (v, M) = r) (fun _ _ _ h => h) (fun v M h => by cases h; exact ⟨rfl, rfl⟩) ((n_X6_meaning_12 (lpP (fun (s : Sg) (r : Int32 × Mem) => PW_X6_meaning X al n (fun v M2 => v = (some (.int r.1)) ∧ M2 = r.2) s.1 s.2.1 s.2.2) r) (fun c l M => some (.inl (c, l, M))) (fun v M => some (.inr (v, M))) none n a0 x1 a2 x3 M).mp h)
  · exact h.elim

noncomputable abbrev f_X6_meaning := b_X6_meaning
theorem s_X6_meaning {X : Nat × (Nat → Int32)} {al : Bool} {n : Nat} {a0 : Nat} {x1 : Int32} {a2 : Nat} {M : Mem} {v : Int32} {M1 : Mem} (h : f_X6_meaning n a0 x1 a2 M = some (v, M1)) : AE yX6_meaning cX6_meaning 4 (some .int) al n X [.ref a0, .int x1, .ref a2] M (some (.int v)) M1 := sb_X6_meaning h
set_option maxHeartbeats 4000000 in
set_option maxRecDepth 100000 in
noncomputable def T_X9_add_0.{u} {α : Sort u} (R : Unit → Mem → α) (N : α) (n : Nat) (a0 : Nat) (x1 : Int32) (x2 : Int32) (M : Mem) : α := gd (fO M a0 9) N (if (M.2.2.1 a0 2) < 200 then bnd (M.2.2.2.2 a0 0) N (fun r4 => gd (fA M r4 1 (M.2.2.1 a0 2)) N (bnd (M.2.2.2.2 a0 1) N (fun r10 => gd (fA M r10 1 ((wI M r4 ((M.2.2.1 a0 2).toNatClampNeg) x1).2.2.1 a0 2)) N (R () (wI (wI (wI M r4 ((M.2.2.1 a0 2).toNatClampNeg) x1) r10 (((wI M r4 ((M.2.2.1 a0 2).toNatClampNeg) x1).2.2.1 a0 2).toNatClampNeg) x2) a0 2 (((wI (wI M r4 ((M.2.2.1 a0 2).toNatClampNeg) x1) r10 (((wI M r4 ((M.2.2.1 a0 2).toNatClampNeg) x1).2.2.1 a0 2).toNatClampNeg) x2).2.2.1 a0 2) + 1)))))) else R () (wI M a0 3 1))
set_option maxHeartbeats 4000000 in
set_option maxRecDepth 100000 in
theorem n_X9_add_0.{u, v} {α : Sort u} {β : Sort v} (h : α → β) (R : Unit → Mem → α) (N : α) (n : Nat) (a0 : Nat) (x1 : Int32) (x2 : Int32) (M : Mem) : h (T_X9_add_0 R N n a0 x1 x2 M) = T_X9_add_0 (fun v M => h (R v M)) (h N) n a0 x1 x2 M := by
  simp only [T_X9_add_0, nat_ite h, nat_gd h, nat_bnd h, nat_bnd2 h]
set_option maxHeartbeats 4000000 in
set_option maxRecDepth 100000 in
theorem w_X9_add_0 {X : Nat × (Nat → Int32)} {al : Bool} {n : Nat} {Q : Option Value → Mem → Prop} {R : Unit → Mem → Prop} (hR : ∀ v M, R v M → Q none M) {a0 : Nat} {x1 : Int32} {x2 : Int32} {M : Mem} (h : T_X9_add_0 R False n a0 x1 x2 M) : AW X (RX9, cX9_add, 3, none, false, al, n) 0 0 0 [(0, .ref a0), (1, .int x1), (2, .int x2)] [] M Q := by
  unfold T_X9_add_0 at h
  refine a_aload_n dX9_add_0 rfl rfl ?_
  obtain ⟨⟨ga1, gs2⟩, h⟩ := gd_t h
  refine a_get (v := .int (M.2.2.1 a0 2)) dX9_add_1 fl_9_18 ga1 gs2 rfl ?_
  refine a_sipush (v := 200) dX9_add_4 (by decide) ?_
  refine a_icmp_lt 16 dX9_add_7 (by decide) (fun c3 => ?_) (fun c3 => ?_)
  · replace h := ite_t c3 h
    refine a_aload_n dX9_add_16 rfl rfl ?_
    obtain ⟨r4, e5, h⟩ := bnd_t h
    refine a_get (v := .ref r4) dX9_add_17 fl_9_9 ga1 gs2 (gvR e5 rfl) ?_
    refine a_aload_n dX9_add_20 rfl rfl ?_
    refine a_get (v := .int (M.2.2.1 a0 2)) dX9_add_21 fl_9_18 ga1 gs2 rfl ?_
    refine a_iload_n dX9_add_24 rfl rfl ?_
    obtain ⟨⟨ga6, gn7, gs8, gi9⟩, h⟩ := gd_t h
    refine a_iastore dX9_add_25 ga6 gs8 gi9 ?_
    refine a_aload_n dX9_add_26 rfl rfl ?_
    obtain ⟨r10, e11, h⟩ := bnd_t h
    refine a_get (v := .ref r10) dX9_add_27 fl_9_15 ga1 gs2 (gvR e11 rfl) ?_
    refine a_aload_n dX9_add_30 rfl rfl ?_
    refine a_get (v := .int ((wI M r4 ((M.2.2.1 a0 2).toNatClampNeg) x1).2.2.1 a0 2)) dX9_add_31 fl_9_18 ga1 gs2 rfl ?_
    refine a_iload_n dX9_add_34 rfl rfl ?_
    obtain ⟨⟨ga12, gn13, gs14, gi15⟩, h⟩ := gd_t h
    refine a_iastore dX9_add_35 ga12 gs14 gi15 ?_
    refine a_aload_n dX9_add_36 rfl rfl ?_
    refine a_dup dX9_add_37 rfl ?_
    refine a_get (v := .int ((wI (wI M r4 ((M.2.2.1 a0 2).toNatClampNeg) x1) r10 (((wI M r4 ((M.2.2.1 a0 2).toNatClampNeg) x1).2.2.1 a0 2).toNatClampNeg) x2).2.2.1 a0 2)) dX9_add_38 fl_9_18 ga1 gs2 rfl ?_
    refine a_iconst (v := 1) dX9_add_41 (by decide) ?_
    refine a_iadd dX9_add_42 ?_
    refine a_putI dX9_add_43 (Or.inl ⟨fl_9_18, Or.inl rfl⟩) rfl ga1 gs2 rfl rfl ?_
    exact a_vret dX9_add_46 rfl (hR _ _ h)
  · replace h := ite_f c3 h
    refine a_aload_n dX9_add_10 rfl rfl ?_
    refine a_iconst (v := 1) dX9_add_11 (by decide) ?_
    refine a_putI dX9_add_12 (Or.inl ⟨fl_9_22, Or.inl rfl⟩) rfl ga1 gs2 rfl rfl ?_
    exact a_vret dX9_add_15 rfl (hR _ _ h)
noncomputable def b_X9_add (n : Nat) (a0 : Nat) (x1 : Int32) (x2 : Int32) (M : Mem) : Option (Unit × Mem) := T_X9_add_0 (fun v M => some (v, M)) none n a0 x1 x2 M
set_option maxHeartbeats 4000000 in
set_option maxRecDepth 100000 in
theorem sb_X9_add {X : Nat × (Nat → Int32)} {al : Bool} {n : Nat} {a0 : Nat} {x1 : Int32} {x2 : Int32} {M : Mem} {v : Unit} {M1 : Mem} (h : b_X9_add n a0 x1 x2 M = some (v, M1)) : AE yX9_add cX9_add 3 none al n X [.ref a0, .int x1, .int x2] M none M1 := by
  refine AM.of false (by decide +kernel) (by intro h; cases h) (Nat.le_of_ble_eq_true rfl) ?_
  have h2 : T_X9_add_0 (fun v2 M2 => some (v2, M2) = some (v, M1)) (none = some (v, M1)) n a0 x1 x2 M := (n_X9_add_0 (fun o => o = some (v, M1)) (fun v M => some (v, M)) none n a0 x1 x2 M).mp h
  have h3 : ((none : Option (Unit × Mem)) = some (v, M1)) = False := eq_false (by intro q; cases q)
  rw [h3] at h2
  exact w_X9_add_0 (fun v2 M2 h => by cases h; exact ⟨rfl, rfl⟩) h2

noncomputable abbrev f_X9_add := b_X9_add
theorem s_X9_add {X : Nat × (Nat → Int32)} {al : Bool} {n : Nat} {a0 : Nat} {x1 : Int32} {x2 : Int32} {M : Mem} {v : Unit} {M1 : Mem} (h : f_X9_add n a0 x1 x2 M = some (v, M1)) : AE yX9_add cX9_add 3 none al n X [.ref a0, .int x1, .int x2] M none M1 := sb_X9_add h
set_option maxHeartbeats 4000000 in
set_option maxRecDepth 100000 in
noncomputable def T_X6_wantBoundTerm_0.{u} {α : Sort u} (R : Unit → Mem → α) (N : α) (n : Nat) (a0 : Nat) (M : Mem) : α := gd (fO M a0 6) N (bnd2 (cal n (fun n => f_X6_push n a0 4 M)) N (fun _ M3 => gd (fO M3 a0 6) N (bnd2 (cal n (fun n => f_X6_push n a0 1 M3)) N (fun _ M9 => R () M9))))
set_option maxHeartbeats 4000000 in
set_option maxRecDepth 100000 in
theorem n_X6_wantBoundTerm_0.{u, v} {α : Sort u} {β : Sort v} (h : α → β) (R : Unit → Mem → α) (N : α) (n : Nat) (a0 : Nat) (M : Mem) : h (T_X6_wantBoundTerm_0 R N n a0 M) = T_X6_wantBoundTerm_0 (fun v M => h (R v M)) (h N) n a0 M := by
  simp only [T_X6_wantBoundTerm_0, nat_ite h, nat_gd h, nat_bnd h, nat_bnd2 h]
set_option maxHeartbeats 4000000 in
set_option maxRecDepth 100000 in
theorem w_X6_wantBoundTerm_0 {X : Nat × (Nat → Int32)} {al : Bool} {n : Nat} {Q : Option Value → Mem → Prop} {R : Unit → Mem → Prop} (hR : ∀ v M, R v M → Q none M) {a0 : Nat} {M : Mem} (h : T_X6_wantBoundTerm_0 R False n a0 M) : AW X (RX6, cX6_wantBoundTerm, 1, none, false, al, n) 0 0 0 [(0, .ref a0)] [] M Q := by
  unfold T_X6_wantBoundTerm_0 at h
  refine a_aload_n dX6_wantBoundTerm_0 rfl rfl ?_
  refine a_iconst (v := 4) dX6_wantBoundTerm_1 (by decide) ?_
  obtain ⟨⟨ga1, gs2⟩, h⟩ := gd_t h
  obtain ⟨_, M3, e4, h⟩ := bnd2_t h
  obtain ⟨n5, en6, e4⟩ := cal_t e4
  refine e_callV (As := [.int 4]) (st := []) (a := a0) (ci := 6) false dX6_wantBoundTerm_2 mw_X6_push (Or.inl ⟨rfl, ml_X6_163⟩) im_X6_push se_X6_push (by decide) ga1 gs2 rfl (Nat.le_of_ble_eq_true rfl) en6 (s_X6_push e4) ?_
  refine a_aload_n dX6_wantBoundTerm_5 rfl rfl ?_
  refine a_iconst (v := 1) dX6_wantBoundTerm_6 (by decide) ?_
  obtain ⟨⟨ga7, gs8⟩, h⟩ := gd_t h
  obtain ⟨_, M9, e10, h⟩ := bnd2_t h
  obtain ⟨n11, en12, e10⟩ := cal_t e10
  refine e_callV (As := [.int 1]) (st := []) (a := a0) (ci := 6) false dX6_wantBoundTerm_7 mw_X6_push (Or.inl ⟨rfl, ml_X6_163⟩) im_X6_push se_X6_push (by decide) ga7 gs8 rfl (Nat.le_of_ble_eq_true rfl) en12 (s_X6_push e10) ?_
  exact a_vret dX6_wantBoundTerm_10 rfl (hR _ _ h)
noncomputable def b_X6_wantBoundTerm (n : Nat) (a0 : Nat) (M : Mem) : Option (Unit × Mem) := T_X6_wantBoundTerm_0 (fun v M => some (v, M)) none n a0 M
set_option maxHeartbeats 4000000 in
set_option maxRecDepth 100000 in
theorem sb_X6_wantBoundTerm {X : Nat × (Nat → Int32)} {al : Bool} {n : Nat} {a0 : Nat} {M : Mem} {v : Unit} {M1 : Mem} (h : b_X6_wantBoundTerm n a0 M = some (v, M1)) : AE yX6_wantBoundTerm cX6_wantBoundTerm 1 none al n X [.ref a0] M none M1 := by
  refine AM.of false (by decide +kernel) (by intro h; cases h) (Nat.le_of_ble_eq_true rfl) ?_
  have h2 : T_X6_wantBoundTerm_0 (fun v2 M2 => some (v2, M2) = some (v, M1)) (none = some (v, M1)) n a0 M := (n_X6_wantBoundTerm_0 (fun o => o = some (v, M1)) (fun v M => some (v, M)) none n a0 M).mp h
  have h3 : ((none : Option (Unit × Mem)) = some (v, M1)) = False := eq_false (by intro q; cases q)
  rw [h3] at h2
  exact w_X6_wantBoundTerm_0 (fun v2 M2 h => by cases h; exact ⟨rfl, rfl⟩) h2

noncomputable abbrev f_X6_wantBoundTerm := b_X6_wantBoundTerm
theorem s_X6_wantBoundTerm {X : Nat × (Nat → Int32)} {al : Bool} {n : Nat} {a0 : Nat} {M : Mem} {v : Unit} {M1 : Mem} (h : f_X6_wantBoundTerm n a0 M = some (v, M1)) : AE yX6_wantBoundTerm cX6_wantBoundTerm 1 none al n X [.ref a0] M none M1 := sb_X6_wantBoundTerm h
set_option maxHeartbeats 4000000 in
set_option maxRecDepth 100000 in
noncomputable def T_X10_arity_0.{u} {α : Sort u} (R : Int32 → Mem → α) (N : α) (n : Nat) (x0 : Int32) (M : Mem) : α := if x0 < 0 then R 0 M else if 11 ≤ x0 then R 0 M else gd (vp_in x0 11) N (R (arF x0.toNatClampNeg) M)
set_option maxHeartbeats 4000000 in
set_option maxRecDepth 100000 in
theorem n_X10_arity_0.{u, v} {α : Sort u} {β : Sort v} (h : α → β) (R : Int32 → Mem → α) (N : α) (n : Nat) (x0 : Int32) (M : Mem) : h (T_X10_arity_0 R N n x0 M) = T_X10_arity_0 (fun v M => h (R v M)) (h N) n x0 M := by
  simp only [T_X10_arity_0, nat_ite h, nat_gd h, nat_bnd h, nat_bnd2 h]
set_option maxHeartbeats 4000000 in
set_option maxRecDepth 100000 in
theorem w_X10_arity_0 {X : Nat × (Nat → Int32)} {al : Bool} {n : Nat} {Q : Option Value → Mem → Prop} {R : Int32 → Mem → Prop} (hR : ∀ v M, R v M → Q (some (.int v)) M) {x0 : Int32} {M : Mem} (h : T_X10_arity_0 R False n x0 M) : AW X (RX10, cX10_arity, 1, (some .int), false, al, n) 0 0 0 [(0, .int x0)] [] M Q := by
  unfold T_X10_arity_0 at h
  refine a_iload_n dX10_arity_0 rfl rfl ?_
  refine a_if_lt 20 dX10_arity_1 (by decide) (fun c1 => ?_) (fun c1 => ?_)
  · replace h := ite_t c1 h
    refine a_iconst (v := 0) dX10_arity_20 (by decide) ?_
    exact a_iret dX10_arity_21 rfl (hR _ _ h)
  · replace h := ite_f c1 h
    refine a_iload_n dX10_arity_4 rfl rfl ?_
    refine a_stAR dX10_arity_5 sf_X10_350 ?_
    refine a_lenAR dX10_arity_8 ?_
    refine a_icmp_ge 20 dX10_arity_9 (by decide) (fun c2 => ?_) (fun c2 => ?_)
    · replace h := ite_t c2 h
      refine a_iconst (v := 0) dX10_arity_20 (by decide) ?_
      exact a_iret dX10_arity_21 rfl (hR _ _ h)
    · replace h := ite_f c2 h
      refine a_stAR dX10_arity_12 sf_X10_350 ?_
      refine a_iload_n dX10_arity_15 rfl rfl ?_
      obtain ⟨gi3, h⟩ := gd_t h
      refine a_ldAR dX10_arity_16 gi3 ?_
      refine a_goto 21 dX10_arity_17 (by decide) ?_
      exact a_iret dX10_arity_21 rfl (hR _ _ h)
noncomputable def b_X10_arity (n : Nat) (x0 : Int32) (M : Mem) : Option (Int32 × Mem) := T_X10_arity_0 (fun v M => some (v, M)) none n x0 M
set_option maxHeartbeats 4000000 in
set_option maxRecDepth 100000 in
theorem sb_X10_arity {X : Nat × (Nat → Int32)} {al : Bool} {n : Nat} {x0 : Int32} {M : Mem} {v : Int32} {M1 : Mem} (h : b_X10_arity n x0 M = some (v, M1)) : AE yX10_arity cX10_arity 1 (some .int) al n X [.int x0] M (some (.int v)) M1 := by
  refine AM.of false (by decide +kernel) (by intro h; cases h) (Nat.le_of_ble_eq_true rfl) ?_
  have h2 : T_X10_arity_0 (fun v2 M2 => some (v2, M2) = some (v, M1)) (none = some (v, M1)) n x0 M := (n_X10_arity_0 (fun o => o = some (v, M1)) (fun v M => some (v, M)) none n x0 M).mp h
  have h3 : ((none : Option (Int32 × Mem)) = some (v, M1)) = False := eq_false (by intro q; cases q)
  rw [h3] at h2
  exact w_X10_arity_0 (fun v2 M2 h => by cases h; exact ⟨rfl, rfl⟩) h2

noncomputable abbrev f_X10_arity := b_X10_arity
theorem s_X10_arity {X : Nat × (Nat → Int32)} {al : Bool} {n : Nat} {x0 : Int32} {M : Mem} {v : Int32} {M1 : Mem} (h : f_X10_arity n x0 M = some (v, M1)) : AE yX10_arity cX10_arity 1 (some .int) al n X [.int x0] M (some (.int v)) M1 := sb_X10_arity h
set_option maxHeartbeats 4000000 in
set_option maxRecDepth 100000 in
noncomputable def T_X10_tellsFormula_0.{u} {α : Sort u} (R : Int32 → Mem → α) (N : α) (n : Nat) (x0 : Int32) (M : Mem) : α := if x0 = 2 then R 1 M else if x0 = 7 then R 1 M else if x0 = 8 then R 1 M else if x0 = 10 then R 1 M else R 0 M
set_option maxHeartbeats 4000000 in
set_option maxRecDepth 100000 in
theorem n_X10_tellsFormula_0.{u, v} {α : Sort u} {β : Sort v} (h : α → β) (R : Int32 → Mem → α) (N : α) (n : Nat) (x0 : Int32) (M : Mem) : h (T_X10_tellsFormula_0 R N n x0 M) = T_X10_tellsFormula_0 (fun v M => h (R v M)) (h N) n x0 M := by
  simp only [T_X10_tellsFormula_0, nat_ite h, nat_gd h, nat_bnd h, nat_bnd2 h]
set_option maxHeartbeats 4000000 in
set_option maxRecDepth 100000 in
theorem w_X10_tellsFormula_0 {X : Nat × (Nat → Int32)} {al : Bool} {n : Nat} {Q : Option Value → Mem → Prop} {R : Int32 → Mem → Prop} (hR : ∀ v M, R v M → Q (some (.int v)) M) {x0 : Int32} {M : Mem} (h : T_X10_tellsFormula_0 R False n x0 M) : AW X (RX10, cX10_tellsFormula, 1, (some .boolean), false, al, n) 0 0 0 [(0, .int x0)] [] M Q := by
  unfold T_X10_tellsFormula_0 at h
  refine a_iload_n dX10_tellsFormula_0 rfl rfl ?_
  refine a_iconst (v := 2) dX10_tellsFormula_1 (by decide) ?_
  refine a_icmp_eq 23 dX10_tellsFormula_2 (by decide) (fun c1 => ?_) (fun c1 => ?_)
  · replace h := ite_t c1 h
    refine a_iconst (v := 1) dX10_tellsFormula_23 (by decide) ?_
    refine a_goto 28 dX10_tellsFormula_24 (by decide) ?_
    exact a_zret dX10_tellsFormula_28 rfl rfl (hR _ _ h)
  · replace h := ite_f c1 h
    refine a_iload_n dX10_tellsFormula_5 rfl rfl ?_
    refine a_bipush (v := 7) dX10_tellsFormula_6 (by decide) ?_
    refine a_icmp_eq 23 dX10_tellsFormula_8 (by decide) (fun c2 => ?_) (fun c2 => ?_)
    · replace h := ite_t c2 h
      refine a_iconst (v := 1) dX10_tellsFormula_23 (by decide) ?_
      refine a_goto 28 dX10_tellsFormula_24 (by decide) ?_
      exact a_zret dX10_tellsFormula_28 rfl rfl (hR _ _ h)
    · replace h := ite_f c2 h
      refine a_iload_n dX10_tellsFormula_11 rfl rfl ?_
      refine a_bipush (v := 8) dX10_tellsFormula_12 (by decide) ?_
      refine a_icmp_eq 23 dX10_tellsFormula_14 (by decide) (fun c3 => ?_) (fun c3 => ?_)
      · replace h := ite_t c3 h
        refine a_iconst (v := 1) dX10_tellsFormula_23 (by decide) ?_
        refine a_goto 28 dX10_tellsFormula_24 (by decide) ?_
        exact a_zret dX10_tellsFormula_28 rfl rfl (hR _ _ h)
      · replace h := ite_f c3 h
        refine a_iload_n dX10_tellsFormula_17 rfl rfl ?_
        refine a_bipush (v := 10) dX10_tellsFormula_18 (by decide) ?_
        refine a_icmp_ne 27 dX10_tellsFormula_20 (by decide) (fun c4 => ?_) (fun c4 => ?_)
        · replace h := ite_f c4 h
          refine a_iconst (v := 0) dX10_tellsFormula_27 (by decide) ?_
          exact a_zret dX10_tellsFormula_28 rfl rfl (hR _ _ h)
        · replace h := ite_t c4 h
          refine a_iconst (v := 1) dX10_tellsFormula_23 (by decide) ?_
          refine a_goto 28 dX10_tellsFormula_24 (by decide) ?_
          exact a_zret dX10_tellsFormula_28 rfl rfl (hR _ _ h)
noncomputable def b_X10_tellsFormula (n : Nat) (x0 : Int32) (M : Mem) : Option (Int32 × Mem) := T_X10_tellsFormula_0 (fun v M => some (v, M)) none n x0 M
set_option maxHeartbeats 4000000 in
set_option maxRecDepth 100000 in
theorem sb_X10_tellsFormula {X : Nat × (Nat → Int32)} {al : Bool} {n : Nat} {x0 : Int32} {M : Mem} {v : Int32} {M1 : Mem} (h : b_X10_tellsFormula n x0 M = some (v, M1)) : AE yX10_tellsFormula cX10_tellsFormula 1 (some .boolean) al n X [.int x0] M (some (.int v)) M1 := by
  refine AM.of false (by decide +kernel) (by intro h; cases h) (Nat.le_of_ble_eq_true rfl) ?_
  have h2 : T_X10_tellsFormula_0 (fun v2 M2 => some (v2, M2) = some (v, M1)) (none = some (v, M1)) n x0 M := (n_X10_tellsFormula_0 (fun o => o = some (v, M1)) (fun v M => some (v, M)) none n x0 M).mp h
  have h3 : ((none : Option (Int32 × Mem)) = some (v, M1)) = False := eq_false (by intro q; cases q)
  rw [h3] at h2
  exact w_X10_tellsFormula_0 (fun v2 M2 h => by cases h; exact ⟨rfl, rfl⟩) h2

noncomputable abbrev f_X10_tellsFormula := b_X10_tellsFormula
theorem s_X10_tellsFormula {X : Nat × (Nat → Int32)} {al : Bool} {n : Nat} {x0 : Int32} {M : Mem} {v : Int32} {M1 : Mem} (h : f_X10_tellsFormula n x0 M = some (v, M1)) : AE yX10_tellsFormula cX10_tellsFormula 1 (some .boolean) al n X [.int x0] M (some (.int v)) M1 := sb_X10_tellsFormula h
def ix_X6_wantRest (c : Nat) : List Nat := if c = 0 then [0, 1] else if c = 56 then [0, 1, 2] else []
def PW_X6_wantRest (X : Nat × (Nat → Int32)) (al : Bool) (n : Nat) (Q : Option Value → Mem → Prop) (c : Nat) (l : List Value) (M : Mem) : Prop := AW X (RX6, cX6_wantRest, 3, none, false, al, n) 0 0 c (List.zip (ix_X6_wantRest c) l) (l.drop (ix_X6_wantRest c).length) M Q
set_option maxHeartbeats 4000000 in
set_option maxRecDepth 100000 in
noncomputable def T_X6_wantRest_0.{u} {α : Sort u} (J : Nat → List Value → Mem → α) (R : Unit → Mem → α) (N : α) (n : Nat) (a0 : Nat) (x1 : Int32) (M : Mem) : α := if x1 = 9 then gd (fO M a0 6) N (bnd2 (cal n (fun n => f_X6_wantBoundTerm n a0 M)) N (fun _ M23 => gd (fO M23 a0 6) N (bnd2 (cal n (fun n => f_X6_push n a0 3 M23)) N (fun _ M29 => gd (fO M29 a0 6) N (bnd2 (cal n (fun n => f_X6_wantBoundTerm n a0 M29)) N (fun _ M35 => gd (fO M35 a0 6) N (bnd2 (cal n (fun n => f_X6_push n a0 3 M35)) N (fun _ M41 => gd (fO M41 a0 6) N (bnd2 (cal n (fun n => f_X6_push n a0 1 M41)) N (fun _ M47 => R () M47)))))))))) else if x1 = 2 then gd (fO M a0 6) N (bnd2 (cal n (fun n => f_X6_wantBoundTerm n a0 M)) N (fun _ M5 => gd (fO M5 a0 6) N (bnd2 (cal n (fun n => f_X6_push n a0 2 M5)) N (fun _ M11 => gd (fO M11 a0 6) N (bnd2 (cal n (fun n => f_X6_push n a0 3 M11)) N (fun _ M17 => R () M17)))))) else J 56 [.ref a0, .int x1, .int 0] M
set_option maxHeartbeats 4000000 in
set_option maxRecDepth 100000 in
theorem n_X6_wantRest_0.{u, v} {α : Sort u} {β : Sort v} (h : α → β) (J : Nat → List Value → Mem → α) (R : Unit → Mem → α) (N : α) (n : Nat) (a0 : Nat) (x1 : Int32) (M : Mem) : h (T_X6_wantRest_0 J R N n a0 x1 M) = T_X6_wantRest_0 (fun c l M => h (J c l M)) (fun v M => h (R v M)) (h N) n a0 x1 M := by
  simp only [T_X6_wantRest_0, nat_ite h, nat_gd h, nat_bnd h, nat_bnd2 h]
set_option maxHeartbeats 4000000 in
set_option maxRecDepth 100000 in
theorem w_X6_wantRest_0 {X : Nat × (Nat → Int32)} {al : Bool} {n : Nat} {Q : Option Value → Mem → Prop} {J : Nat → List Value → Mem → Prop} (hJ : ∀ c l M, J c l M → PW_X6_wantRest X al n Q c l M) {R : Unit → Mem → Prop} (hR : ∀ v M, R v M → Q none M) {a0 : Nat} {x1 : Int32} {M : Mem} (h : T_X6_wantRest_0 J R False n a0 x1 M) : AW X (RX6, cX6_wantRest, 3, none, false, al, n) 0 0 0 [(0, .ref a0), (1, .int x1)] [] M Q := by
  unfold T_X6_wantRest_0 at h
  refine a_iload_n dX6_wantRest_0 rfl rfl ?_
  refine a_bipush (v := 9) dX6_wantRest_1 (by decide) ?_
  refine a_icmp_ne 32 dX6_wantRest_3 (by decide) (fun c1 => ?_) (fun c1 => ?_)
  · replace h := ite_f c1 h
    refine a_iload_n dX6_wantRest_32 rfl rfl ?_
    refine a_iconst (v := 2) dX6_wantRest_33 (by decide) ?_
    refine a_icmp_ne 54 dX6_wantRest_34 (by decide) (fun c2 => ?_) (fun c2 => ?_)
    · replace h := ite_f c2 h
      refine a_iconst (v := 0) dX6_wantRest_54 (by decide) ?_
      refine a_istore_n dX6_wantRest_55 rfl (Nat.le_of_ble_eq_true rfl) (lv2 := [(2, .int 0), (0, .ref a0), (1, .int x1)]) rfl ?_
      exact a_lv (lv2 := [(0, .ref a0), (1, .int x1), (2, .int 0)]) (fa_cons rfl (fa_cons rfl (fa_cons rfl fa_nil))) (hJ _ _ _ h)
    · replace h := ite_t c2 h
      refine a_aload_n dX6_wantRest_37 rfl rfl ?_
      obtain ⟨⟨ga3, gs4⟩, h⟩ := gd_t h
      obtain ⟨_, M5, e6, h⟩ := bnd2_t h
      obtain ⟨n7, en8, e6⟩ := cal_t e6
      refine e_callV (As := []) (st := []) (a := a0) (ci := 6) false dX6_wantRest_38 mw_X6_wantBoundTerm (Or.inl ⟨rfl, ml_X6_196⟩) im_X6_wantBoundTerm se_X6_wantBoundTerm (by decide) ga3 gs4 rfl (Nat.le_of_ble_eq_true rfl) en8 (s_X6_wantBoundTerm e6) ?_
      refine a_aload_n dX6_wantRest_41 rfl rfl ?_
      refine a_iconst (v := 2) dX6_wantRest_42 (by decide) ?_
      obtain ⟨⟨ga9, gs10⟩, h⟩ := gd_t h
      obtain ⟨_, M11, e12, h⟩ := bnd2_t h
      obtain ⟨n13, en14, e12⟩ := cal_t e12
      refine e_callV (As := [.int 2]) (st := []) (a := a0) (ci := 6) false dX6_wantRest_43 mw_X6_push (Or.inl ⟨rfl, ml_X6_163⟩) im_X6_push se_X6_push (by decide) ga9 gs10 rfl (Nat.le_of_ble_eq_true rfl) en14 (s_X6_push e12) ?_
      refine a_aload_n dX6_wantRest_46 rfl rfl ?_
      refine a_iconst (v := 3) dX6_wantRest_47 (by decide) ?_
      obtain ⟨⟨ga15, gs16⟩, h⟩ := gd_t h
      obtain ⟨_, M17, e18, h⟩ := bnd2_t h
      obtain ⟨n19, en20, e18⟩ := cal_t e18
      refine e_callV (As := [.int 3]) (st := []) (a := a0) (ci := 6) false dX6_wantRest_48 mw_X6_push (Or.inl ⟨rfl, ml_X6_163⟩) im_X6_push se_X6_push (by decide) ga15 gs16 rfl (Nat.le_of_ble_eq_true rfl) en20 (s_X6_push e18) ?_
      refine a_goto 87 dX6_wantRest_51 (by decide) ?_
      exact a_vret dX6_wantRest_87 rfl (hR _ _ h)
  · replace h := ite_t c1 h
    refine a_aload_n dX6_wantRest_6 rfl rfl ?_
    obtain ⟨⟨ga21, gs22⟩, h⟩ := gd_t h
    obtain ⟨_, M23, e24, h⟩ := bnd2_t h
    obtain ⟨n25, en26, e24⟩ := cal_t e24
    refine e_callV (As := []) (st := []) (a := a0) (ci := 6) false dX6_wantRest_7 mw_X6_wantBoundTerm (Or.inl ⟨rfl, ml_X6_196⟩) im_X6_wantBoundTerm se_X6_wantBoundTerm (by decide) ga21 gs22 rfl (Nat.le_of_ble_eq_true rfl) en26 (s_X6_wantBoundTerm e24) ?_
    refine a_aload_n dX6_wantRest_10 rfl rfl ?_
    refine a_iconst (v := 3) dX6_wantRest_11 (by decide) ?_
    obtain ⟨⟨ga27, gs28⟩, h⟩ := gd_t h
    obtain ⟨_, M29, e30, h⟩ := bnd2_t h
    obtain ⟨n31, en32, e30⟩ := cal_t e30
    refine e_callV (As := [.int 3]) (st := []) (a := a0) (ci := 6) false dX6_wantRest_12 mw_X6_push (Or.inl ⟨rfl, ml_X6_163⟩) im_X6_push se_X6_push (by decide) ga27 gs28 rfl (Nat.le_of_ble_eq_true rfl) en32 (s_X6_push e30) ?_
    refine a_aload_n dX6_wantRest_15 rfl rfl ?_
    obtain ⟨⟨ga33, gs34⟩, h⟩ := gd_t h
    obtain ⟨_, M35, e36, h⟩ := bnd2_t h
    obtain ⟨n37, en38, e36⟩ := cal_t e36
    refine e_callV (As := []) (st := []) (a := a0) (ci := 6) false dX6_wantRest_16 mw_X6_wantBoundTerm (Or.inl ⟨rfl, ml_X6_196⟩) im_X6_wantBoundTerm se_X6_wantBoundTerm (by decide) ga33 gs34 rfl (Nat.le_of_ble_eq_true rfl) en38 (s_X6_wantBoundTerm e36) ?_
    refine a_aload_n dX6_wantRest_19 rfl rfl ?_
    refine a_iconst (v := 3) dX6_wantRest_20 (by decide) ?_
    obtain ⟨⟨ga39, gs40⟩, h⟩ := gd_t h
    obtain ⟨_, M41, e42, h⟩ := bnd2_t h
    obtain ⟨n43, en44, e42⟩ := cal_t e42
    refine e_callV (As := [.int 3]) (st := []) (a := a0) (ci := 6) false dX6_wantRest_21 mw_X6_push (Or.inl ⟨rfl, ml_X6_163⟩) im_X6_push se_X6_push (by decide) ga39 gs40 rfl (Nat.le_of_ble_eq_true rfl) en44 (s_X6_push e42) ?_
    refine a_aload_n dX6_wantRest_24 rfl rfl ?_
    refine a_iconst (v := 1) dX6_wantRest_25 (by decide) ?_
    obtain ⟨⟨ga45, gs46⟩, h⟩ := gd_t h
    obtain ⟨_, M47, e48, h⟩ := bnd2_t h
    obtain ⟨n49, en50, e48⟩ := cal_t e48
    refine e_callV (As := [.int 1]) (st := []) (a := a0) (ci := 6) false dX6_wantRest_26 mw_X6_push (Or.inl ⟨rfl, ml_X6_163⟩) im_X6_push se_X6_push (by decide) ga45 gs46 rfl (Nat.le_of_ble_eq_true rfl) en50 (s_X6_push e48) ?_
    refine a_goto 87 dX6_wantRest_29 (by decide) ?_
    exact a_vret dX6_wantRest_87 rfl (hR _ _ h)
set_option maxHeartbeats 4000000 in
set_option maxRecDepth 100000 in
noncomputable def T_X6_wantRest_56.{u} {α : Sort u} (J : Nat → List Value → Mem → α) (R : Unit → Mem → α) (N : α) (n : Nat) (a0 : Nat) (x1 : Int32) (x2 : Int32) (M : Mem) : α := bnd2 (cal n (fun n => f_X10_arity n x1 M)) N (fun v1 M2 => if v1 ≤ x2 then bnd2 (cal n (fun n => f_X10_tellsFormula n x1 M2)) N (fun v7 M8 => if v7 = 0 then R () M8 else gd (fO M8 a0 6) N (bnd2 (cal n (fun n => f_X6_push n a0 2 M8)) N (fun _ M15 => R () M15))) else gd (fO M2 a0 6) N (bnd2 (cal n (fun n => f_X6_push n a0 1 M2)) N (fun _ M21 => J 56 [.ref a0, .int x1, .int (x2 + 1)] M21)))
set_option maxHeartbeats 4000000 in
set_option maxRecDepth 100000 in
theorem n_X6_wantRest_56.{u, v} {α : Sort u} {β : Sort v} (h : α → β) (J : Nat → List Value → Mem → α) (R : Unit → Mem → α) (N : α) (n : Nat) (a0 : Nat) (x1 : Int32) (x2 : Int32) (M : Mem) : h (T_X6_wantRest_56 J R N n a0 x1 x2 M) = T_X6_wantRest_56 (fun c l M => h (J c l M)) (fun v M => h (R v M)) (h N) n a0 x1 x2 M := by
  simp only [T_X6_wantRest_56, nat_ite h, nat_gd h, nat_bnd h, nat_bnd2 h]
set_option maxHeartbeats 4000000 in
set_option maxRecDepth 100000 in
theorem w_X6_wantRest_56 {X : Nat × (Nat → Int32)} {al : Bool} {n : Nat} {Q : Option Value → Mem → Prop} {J : Nat → List Value → Mem → Prop} (hJ : ∀ c l M, J c l M → PW_X6_wantRest X al n Q c l M) {R : Unit → Mem → Prop} (hR : ∀ v M, R v M → Q none M) {a0 : Nat} {x1 : Int32} {x2 : Int32} {M : Mem} (h : T_X6_wantRest_56 J R False n a0 x1 x2 M) : AW X (RX6, cX6_wantRest, 3, none, false, al, n) 0 0 56 [(0, .ref a0), (1, .int x1), (2, .int x2)] [] M Q := by
  unfold T_X6_wantRest_56 at h
  refine a_iload_n dX6_wantRest_56 rfl rfl ?_
  refine a_iload_n dX6_wantRest_57 rfl rfl ?_
  obtain ⟨v1, M2, e3, h⟩ := bnd2_t h
  obtain ⟨n4, en5, e3⟩ := cal_t e3
  refine e_callS (As := [.int x1]) (st := [.int x2]) true dX6_wantRest_58 mw_X10_arity (Or.inr ⟨rfl, mn_X6_199⟩) sm_X10_arity rfl (Nat.le_of_ble_eq_true rfl) en5 (s_X10_arity e3) ?_
  refine a_icmp_ge 75 dX6_wantRest_61 (by decide) (fun c6 => ?_) (fun c6 => ?_)
  · replace h := ite_t c6 h
    refine a_iload_n dX6_wantRest_75 rfl rfl ?_
    obtain ⟨v7, M8, e9, h⟩ := bnd2_t h
    obtain ⟨n10, en11, e9⟩ := cal_t e9
    refine e_callS (As := [.int x1]) (st := []) true dX6_wantRest_76 mw_X10_tellsFormula (Or.inr ⟨rfl, mn_X6_202⟩) sm_X10_tellsFormula rfl (Nat.le_of_ble_eq_true rfl) en11 (s_X10_tellsFormula e9) ?_
    refine a_if_eq 87 dX6_wantRest_79 (by decide) (fun c12 => ?_) (fun c12 => ?_)
    · replace h := ite_t c12 h
      exact a_vret dX6_wantRest_87 rfl (hR _ _ h)
    · replace h := ite_f c12 h
      refine a_aload_n dX6_wantRest_82 rfl rfl ?_
      refine a_iconst (v := 2) dX6_wantRest_83 (by decide) ?_
      obtain ⟨⟨ga13, gs14⟩, h⟩ := gd_t h
      obtain ⟨_, M15, e16, h⟩ := bnd2_t h
      obtain ⟨n17, en18, e16⟩ := cal_t e16
      refine e_callV (As := [.int 2]) (st := []) (a := a0) (ci := 6) false dX6_wantRest_84 mw_X6_push (Or.inl ⟨rfl, ml_X6_163⟩) im_X6_push se_X6_push (by decide) ga13 gs14 rfl (Nat.le_of_ble_eq_true rfl) en18 (s_X6_push e16) ?_
      exact a_vret dX6_wantRest_87 rfl (hR _ _ h)
  · replace h := ite_f c6 h
    refine a_aload_n dX6_wantRest_64 rfl rfl ?_
    refine a_iconst (v := 1) dX6_wantRest_65 (by decide) ?_
    obtain ⟨⟨ga19, gs20⟩, h⟩ := gd_t h
    obtain ⟨_, M21, e22, h⟩ := bnd2_t h
    obtain ⟨n23, en24, e22⟩ := cal_t e22
    refine e_callV (As := [.int 1]) (st := []) (a := a0) (ci := 6) false dX6_wantRest_66 mw_X6_push (Or.inl ⟨rfl, ml_X6_163⟩) im_X6_push se_X6_push (by decide) ga19 gs20 rfl (Nat.le_of_ble_eq_true rfl) en24 (s_X6_push e22) ?_
    refine a_iinc (v := (x2 + 1)) dX6_wantRest_69 rfl (by first | rfl | decide) (Nat.le_of_ble_eq_true rfl) (lv2 := [(2, .int (x2 + 1)), (0, .ref a0), (1, .int x1)]) rfl ?_
    refine a_goto 56 dX6_wantRest_72 (by decide) ?_
    exact a_lv (lv2 := [(0, .ref a0), (1, .int x1), (2, .int (x2 + 1))]) (fa_cons rfl (fa_cons rfl (fa_cons rfl fa_nil))) (hJ _ _ _ h)
set_option maxHeartbeats 4000000 in
set_option maxRecDepth 100000 in
noncomputable def st_X6_wantRest (n : Nat) (s : Sg) : Option (Sg ⊕ (Unit × Mem)) := if s.1 = 0 then vR s.2.1 none (fun a0 t => vI t none (fun x1 t => vE t none (T_X6_wantRest_0 (fun c l M => some (.inl (c, l, M))) (fun v M => some (.inr (v, M))) none n a0 x1 s.2.2))) else if s.1 = 56 then vR s.2.1 none (fun a0 t => vI t none (fun x1 t => vI t none (fun x2 t => vE t none (T_X6_wantRest_56 (fun c l M => some (.inl (c, l, M))) (fun v M => some (.inr (v, M))) none n a0 x1 x2 s.2.2)))) else none
noncomputable abbrev g_X6_wantRest_0 (n : Nat) (a0 : Nat) (x1 : Int32) (M : Mem) : Option (Unit × Mem) := lp (st_X6_wantRest n) (0, [.ref a0, .int x1], M)
set_option maxHeartbeats 4000000 in
set_option maxRecDepth 100000 in
theorem ge_X6_wantRest_0 (n : Nat) (a0 : Nat) (x1 : Int32) (M : Mem) : g_X6_wantRest_0 n a0 x1 M = T_X6_wantRest_0 (fun c l M => lp (st_X6_wantRest n) (c, l, M)) (fun v M => some (v, M)) none n a0 x1 M := (lp_eq _ _).trans (n_X6_wantRest_0 (lpK (st_X6_wantRest n)) (fun c l M => some (.inl (c, l, M))) (fun v M => some (.inr (v, M))) none n a0 x1 M)
noncomputable abbrev g_X6_wantRest_56 (n : Nat) (a0 : Nat) (x1 : Int32) (x2 : Int32) (M : Mem) : Option (Unit × Mem) := lp (st_X6_wantRest n) (56, [.ref a0, .int x1, .int x2], M)
set_option maxHeartbeats 4000000 in
set_option maxRecDepth 100000 in
theorem ge_X6_wantRest_56 (n : Nat) (a0 : Nat) (x1 : Int32) (x2 : Int32) (M : Mem) : g_X6_wantRest_56 n a0 x1 x2 M = T_X6_wantRest_56 (fun c l M => lp (st_X6_wantRest n) (c, l, M)) (fun v M => some (v, M)) none n a0 x1 x2 M := (lp_eq _ _).trans (n_X6_wantRest_56 (lpK (st_X6_wantRest n)) (fun c l M => some (.inl (c, l, M))) (fun v M => some (.inr (v, M))) none n a0 x1 x2 M)
noncomputable def b_X6_wantRest (n : Nat) (a0 : Nat) (x1 : Int32) (M : Mem) : Option (Unit × Mem) := g_X6_wantRest_0 n a0 x1 M
set_option maxHeartbeats 4000000 in
set_option maxRecDepth 100000 in
theorem sb_X6_wantRest {X : Nat × (Nat → Int32)} {al : Bool} {n : Nat} {a0 : Nat} {x1 : Int32} {M : Mem} {v : Unit} {M1 : Mem} (h : b_X6_wantRest n a0 x1 M = some (v, M1)) : AE yX6_wantRest cX6_wantRest 3 none al n X [.ref a0, .int x1] M none M1 := by
  refine AM.of false (by decide +kernel) (by intro h; cases h) (Nat.le_of_ble_eq_true rfl) ?_
  refine lp_snd (P := fun s r => PW_X6_wantRest X al n (fun v M2 => v = none ∧ M2 = r.2) s.1 s.2.1 s.2.2) ?_ h
  clear h
  rintro ⟨c, l, M⟩ r h
  unfold st_X6_wantRest at h
  rcases ite_p h with ⟨e, h⟩ | ⟨e, h⟩
  · replace e : c = 0 := e
    subst e
    obtain ⟨a0, tt0, e, h⟩ := vR_p id h
    replace e : l = _ := e
    subst e
    obtain ⟨x1, tt1, e, h⟩ := vI_p id h
    replace e : tt0 = _ := e
    subst e
    obtain ⟨e, h⟩ := vE_p id h
    replace e : tt1 = [] := e
    subst e
    exact w_X6_wantRest_0 (J := fun c l M => PW_X6_wantRest X al n (fun v M2 => v = none ∧ M2 = r.2) c l M) (R := fun v M => (v, M) = r) (fun _ _ _ h => h) (fun v M h => by cases h; exact ⟨rfl, rfl⟩) ((n_X6_wantRest_0 (lpP (fun (s : Sg) (r : Unit × Mem) => PW_X6_wantRest X al n (fun v M2 => v = none ∧ M2 = r.2) s.1 s.2.1 s.2.2) r) (fun c l M => some (.inl (c, l, M))) (fun v M => some (.inr (v, M))) none n a0 x1 M).mp h)
  rcases ite_p h with ⟨e, h⟩ | ⟨e, h⟩
  · replace e : c = 56 := e
    subst e
    obtain ⟨a0, tt0, e, h⟩ := vR_p id h
    replace e : l = _ := e
    subst e
    obtain ⟨x1, tt1, e, h⟩ := vI_p id h
    replace e : tt0 = _ := e
    subst e
    obtain ⟨x2, tt2, e, h⟩ := vI_p id h
    replace e : tt1 = _ := e
    subst e
    obtain ⟨e, h⟩ := vE_p id h
    replace e : tt2 = [] := e
    subst e
    exact w_X6_wantRest_56 (J := fun c l M => PW_X6_wantRest X al n (fun v M2 => v = none ∧ M2 = r.2) c l M) (R := fun v M => (v, M) = r) (fun _ _ _ h => h) (fun v M h => by cases h; exact ⟨rfl, rfl⟩) ((n_X6_wantRest_56 (lpP (fun (s : Sg) (r : Unit × Mem) => PW_X6_wantRest X al n (fun v M2 => v = none ∧ M2 = r.2) s.1 s.2.1 s.2.2) r) (fun c l M => some (.inl (c, l, M))) (fun v M => some (.inr (v, M))) none n a0 x1 x2 M).mp h)
  · exact h.elim

noncomputable abbrev f_X6_wantRest := b_X6_wantRest
theorem s_X6_wantRest {X : Nat × (Nat → Int32)} {al : Bool} {n : Nat} {a0 : Nat} {x1 : Int32} {M : Mem} {v : Unit} {M1 : Mem} (h : f_X6_wantRest n a0 x1 M = some (v, M1)) : AE yX6_wantRest cX6_wantRest 3 none al n X [.ref a0, .int x1] M none M1 := sb_X6_wantRest h
