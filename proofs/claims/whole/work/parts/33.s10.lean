/-! METHODS AS FUNCTIONS, written by wip/gen/shallow.py -/
set_option maxHeartbeats 4000000 in
set_option maxRecDepth 100000 in
noncomputable def T_X3_nestOf_0.{u} {α : Sort u} (R : Int32 → Mem → α) (N : α) (n : Nat) (a0 : Nat) (x1 : Int32) (M : Mem) : α := if x1 < 0 then R 0 M else if 200 ≤ x1 then R 0 M else gd (fO M a0 3) N (bnd (M.2.2.2.2 a0 7) N (fun r5 => gd (fA M r5 1 x1) N (R (M.2.2.1 r5 (x1.toNatClampNeg)) M)))
set_option maxHeartbeats 4000000 in
set_option maxRecDepth 100000 in
theorem n_X3_nestOf_0.{u, v} {α : Sort u} {β : Sort v} (h : α → β) (R : Int32 → Mem → α) (N : α) (n : Nat) (a0 : Nat) (x1 : Int32) (M : Mem) : h (T_X3_nestOf_0 R N n a0 x1 M) = T_X3_nestOf_0 (fun v M => h (R v M)) (h N) n a0 x1 M := by
  simp only [T_X3_nestOf_0, nat_ite h, nat_gd h, nat_bnd h, nat_bnd2 h]
set_option maxHeartbeats 4000000 in
set_option maxRecDepth 100000 in
theorem w_X3_nestOf_0 {X : Nat × (Nat → Int32)} {al : Bool} {n : Nat} {Q : Option Value → Mem → Prop} {R : Int32 → Mem → Prop} (hR : ∀ v M, R v M → Q (some (.int v)) M) {a0 : Nat} {x1 : Int32} {M : Mem} (h : T_X3_nestOf_0 R False n a0 x1 M) : AW X (RX3, cX3_nestOf, 2, (some .int), false, al, n) 0 0 0 [(0, .ref a0), (1, .int x1)] [] M Q := by
  unfold T_X3_nestOf_0 at h
  refine a_iload_n dX3_nestOf_0 rfl rfl ?_
  refine a_if_lt 20 dX3_nestOf_1 (by decide) (fun c1 => ?_) (fun c1 => ?_)
  · replace h := ite_t c1 h
    refine a_iconst (v := 0) dX3_nestOf_20 (by decide) ?_
    exact a_iret dX3_nestOf_21 rfl (hR _ _ h)
  · replace h := ite_f c1 h
    refine a_iload_n dX3_nestOf_4 rfl rfl ?_
    refine a_sipush (v := 200) dX3_nestOf_5 (by decide) ?_
    refine a_icmp_ge 20 dX3_nestOf_8 (by decide) (fun c2 => ?_) (fun c2 => ?_)
    · replace h := ite_t c2 h
      refine a_iconst (v := 0) dX3_nestOf_20 (by decide) ?_
      exact a_iret dX3_nestOf_21 rfl (hR _ _ h)
    · replace h := ite_f c2 h
      refine a_aload_n dX3_nestOf_11 rfl rfl ?_
      obtain ⟨⟨ga3, gs4⟩, h⟩ := gd_t h
      obtain ⟨r5, e6, h⟩ := bnd_t h
      refine a_get (v := .ref r5) dX3_nestOf_12 fl_3_24 ga3 gs4 (gvR e6 rfl) ?_
      refine a_iload_n dX3_nestOf_15 rfl rfl ?_
      obtain ⟨⟨ga7, gn8, gs9, gi10⟩, h⟩ := gd_t h
      refine a_iaload dX3_nestOf_16 ga7 gs9 gi10 ?_
      refine a_goto 21 dX3_nestOf_17 (by decide) ?_
      exact a_iret dX3_nestOf_21 rfl (hR _ _ h)
noncomputable def b_X3_nestOf (n : Nat) (a0 : Nat) (x1 : Int32) (M : Mem) : Option (Int32 × Mem) := T_X3_nestOf_0 (fun v M => some (v, M)) none n a0 x1 M
set_option maxHeartbeats 4000000 in
set_option maxRecDepth 100000 in
theorem sb_X3_nestOf {X : Nat × (Nat → Int32)} {al : Bool} {n : Nat} {a0 : Nat} {x1 : Int32} {M : Mem} {v : Int32} {M1 : Mem} (h : b_X3_nestOf n a0 x1 M = some (v, M1)) : AE yX3_nestOf cX3_nestOf 2 (some .int) al n X [.ref a0, .int x1] M (some (.int v)) M1 := by
  refine AM.of false (by decide +kernel) (by intro h; cases h) (Nat.le_of_ble_eq_true rfl) ?_
  have h2 : T_X3_nestOf_0 (fun v2 M2 => some (v2, M2) = some (v, M1)) (none = some (v, M1)) n a0 x1 M := (n_X3_nestOf_0 (fun o => o = some (v, M1)) (fun v M => some (v, M)) none n a0 x1 M).mp h
  have h3 : ((none : Option (Int32 × Mem)) = some (v, M1)) = False := eq_false (by intro q; cases q)
  rw [h3] at h2
  exact w_X3_nestOf_0 (fun v2 M2 h => by cases h; exact ⟨rfl, rfl⟩) h2

noncomputable abbrev f_X3_nestOf := b_X3_nestOf
theorem s_X3_nestOf {X : Nat × (Nat → Int32)} {al : Bool} {n : Nat} {a0 : Nat} {x1 : Int32} {M : Mem} {v : Int32} {M1 : Mem} (h : f_X3_nestOf n a0 x1 M = some (v, M1)) : AE yX3_nestOf cX3_nestOf 2 (some .int) al n X [.ref a0, .int x1] M (some (.int v)) M1 := sb_X3_nestOf h
set_option maxHeartbeats 4000000 in
set_option maxRecDepth 100000 in
noncomputable def T_X3_depthOf_0.{u} {α : Sort u} (R : Int32 → Mem → α) (N : α) (n : Nat) (a0 : Nat) (x1 : Int32) (M : Mem) : α := if x1 < 0 then R 0 M else if 200 ≤ x1 then R 0 M else gd (fO M a0 3) N (bnd (M.2.2.2.2 a0 4) N (fun r5 => gd (fA M r5 1 x1) N (R (M.2.2.1 r5 (x1.toNatClampNeg)) M)))
set_option maxHeartbeats 4000000 in
set_option maxRecDepth 100000 in
theorem n_X3_depthOf_0.{u, v} {α : Sort u} {β : Sort v} (h : α → β) (R : Int32 → Mem → α) (N : α) (n : Nat) (a0 : Nat) (x1 : Int32) (M : Mem) : h (T_X3_depthOf_0 R N n a0 x1 M) = T_X3_depthOf_0 (fun v M => h (R v M)) (h N) n a0 x1 M := by
  simp only [T_X3_depthOf_0, nat_ite h, nat_gd h, nat_bnd h, nat_bnd2 h]
set_option maxHeartbeats 4000000 in
set_option maxRecDepth 100000 in
theorem w_X3_depthOf_0 {X : Nat × (Nat → Int32)} {al : Bool} {n : Nat} {Q : Option Value → Mem → Prop} {R : Int32 → Mem → Prop} (hR : ∀ v M, R v M → Q (some (.int v)) M) {a0 : Nat} {x1 : Int32} {M : Mem} (h : T_X3_depthOf_0 R False n a0 x1 M) : AW X (RX3, cX3_depthOf, 2, (some .int), false, al, n) 0 0 0 [(0, .ref a0), (1, .int x1)] [] M Q := by
  unfold T_X3_depthOf_0 at h
  refine a_iload_n dX3_depthOf_0 rfl rfl ?_
  refine a_if_lt 20 dX3_depthOf_1 (by decide) (fun c1 => ?_) (fun c1 => ?_)
  · replace h := ite_t c1 h
    refine a_iconst (v := 0) dX3_depthOf_20 (by decide) ?_
    exact a_iret dX3_depthOf_21 rfl (hR _ _ h)
  · replace h := ite_f c1 h
    refine a_iload_n dX3_depthOf_4 rfl rfl ?_
    refine a_sipush (v := 200) dX3_depthOf_5 (by decide) ?_
    refine a_icmp_ge 20 dX3_depthOf_8 (by decide) (fun c2 => ?_) (fun c2 => ?_)
    · replace h := ite_t c2 h
      refine a_iconst (v := 0) dX3_depthOf_20 (by decide) ?_
      exact a_iret dX3_depthOf_21 rfl (hR _ _ h)
    · replace h := ite_f c2 h
      refine a_aload_n dX3_depthOf_11 rfl rfl ?_
      obtain ⟨⟨ga3, gs4⟩, h⟩ := gd_t h
      obtain ⟨r5, e6, h⟩ := bnd_t h
      refine a_get (v := .ref r5) dX3_depthOf_12 fl_3_15 ga3 gs4 (gvR e6 rfl) ?_
      refine a_iload_n dX3_depthOf_15 rfl rfl ?_
      obtain ⟨⟨ga7, gn8, gs9, gi10⟩, h⟩ := gd_t h
      refine a_iaload dX3_depthOf_16 ga7 gs9 gi10 ?_
      refine a_goto 21 dX3_depthOf_17 (by decide) ?_
      exact a_iret dX3_depthOf_21 rfl (hR _ _ h)
noncomputable def b_X3_depthOf (n : Nat) (a0 : Nat) (x1 : Int32) (M : Mem) : Option (Int32 × Mem) := T_X3_depthOf_0 (fun v M => some (v, M)) none n a0 x1 M
set_option maxHeartbeats 4000000 in
set_option maxRecDepth 100000 in
theorem sb_X3_depthOf {X : Nat × (Nat → Int32)} {al : Bool} {n : Nat} {a0 : Nat} {x1 : Int32} {M : Mem} {v : Int32} {M1 : Mem} (h : b_X3_depthOf n a0 x1 M = some (v, M1)) : AE yX3_depthOf cX3_depthOf 2 (some .int) al n X [.ref a0, .int x1] M (some (.int v)) M1 := by
  refine AM.of false (by decide +kernel) (by intro h; cases h) (Nat.le_of_ble_eq_true rfl) ?_
  have h2 : T_X3_depthOf_0 (fun v2 M2 => some (v2, M2) = some (v, M1)) (none = some (v, M1)) n a0 x1 M := (n_X3_depthOf_0 (fun o => o = some (v, M1)) (fun v M => some (v, M)) none n a0 x1 M).mp h
  have h3 : ((none : Option (Int32 × Mem)) = some (v, M1)) = False := eq_false (by intro q; cases q)
  rw [h3] at h2
  exact w_X3_depthOf_0 (fun v2 M2 h => by cases h; exact ⟨rfl, rfl⟩) h2

noncomputable abbrev f_X3_depthOf := b_X3_depthOf
theorem s_X3_depthOf {X : Nat × (Nat → Int32)} {al : Bool} {n : Nat} {a0 : Nat} {x1 : Int32} {M : Mem} {v : Int32} {M1 : Mem} (h : f_X3_depthOf n a0 x1 M = some (v, M1)) : AE yX3_depthOf cX3_depthOf 2 (some .int) al n X [.ref a0, .int x1] M (some (.int v)) M1 := sb_X3_depthOf h
set_option maxHeartbeats 4000000 in
set_option maxRecDepth 100000 in
noncomputable def T_X3_parentOf_0.{u} {α : Sort u} (R : Int32 → Mem → α) (N : α) (n : Nat) (a0 : Nat) (x1 : Int32) (M : Mem) : α := if x1 < 0 then R (-1) M else if 200 ≤ x1 then R (-1) M else gd (fO M a0 3) N (bnd (M.2.2.2.2 a0 5) N (fun r5 => gd (fA M r5 1 x1) N (R (M.2.2.1 r5 (x1.toNatClampNeg)) M)))
set_option maxHeartbeats 4000000 in
set_option maxRecDepth 100000 in
theorem n_X3_parentOf_0.{u, v} {α : Sort u} {β : Sort v} (h : α → β) (R : Int32 → Mem → α) (N : α) (n : Nat) (a0 : Nat) (x1 : Int32) (M : Mem) : h (T_X3_parentOf_0 R N n a0 x1 M) = T_X3_parentOf_0 (fun v M => h (R v M)) (h N) n a0 x1 M := by
  simp only [T_X3_parentOf_0, nat_ite h, nat_gd h, nat_bnd h, nat_bnd2 h]
set_option maxHeartbeats 4000000 in
set_option maxRecDepth 100000 in
theorem w_X3_parentOf_0 {X : Nat × (Nat → Int32)} {al : Bool} {n : Nat} {Q : Option Value → Mem → Prop} {R : Int32 → Mem → Prop} (hR : ∀ v M, R v M → Q (some (.int v)) M) {a0 : Nat} {x1 : Int32} {M : Mem} (h : T_X3_parentOf_0 R False n a0 x1 M) : AW X (RX3, cX3_parentOf, 2, (some .int), false, al, n) 0 0 0 [(0, .ref a0), (1, .int x1)] [] M Q := by
  unfold T_X3_parentOf_0 at h
  refine a_iload_n dX3_parentOf_0 rfl rfl ?_
  refine a_if_lt 20 dX3_parentOf_1 (by decide) (fun c1 => ?_) (fun c1 => ?_)
  · replace h := ite_t c1 h
    refine a_iconst (v := -1) dX3_parentOf_20 (by decide) ?_
    exact a_iret dX3_parentOf_21 rfl (hR _ _ h)
  · replace h := ite_f c1 h
    refine a_iload_n dX3_parentOf_4 rfl rfl ?_
    refine a_sipush (v := 200) dX3_parentOf_5 (by decide) ?_
    refine a_icmp_ge 20 dX3_parentOf_8 (by decide) (fun c2 => ?_) (fun c2 => ?_)
    · replace h := ite_t c2 h
      refine a_iconst (v := -1) dX3_parentOf_20 (by decide) ?_
      exact a_iret dX3_parentOf_21 rfl (hR _ _ h)
    · replace h := ite_f c2 h
      refine a_aload_n dX3_parentOf_11 rfl rfl ?_
      obtain ⟨⟨ga3, gs4⟩, h⟩ := gd_t h
      obtain ⟨r5, e6, h⟩ := bnd_t h
      refine a_get (v := .ref r5) dX3_parentOf_12 fl_3_18 ga3 gs4 (gvR e6 rfl) ?_
      refine a_iload_n dX3_parentOf_15 rfl rfl ?_
      obtain ⟨⟨ga7, gn8, gs9, gi10⟩, h⟩ := gd_t h
      refine a_iaload dX3_parentOf_16 ga7 gs9 gi10 ?_
      refine a_goto 21 dX3_parentOf_17 (by decide) ?_
      exact a_iret dX3_parentOf_21 rfl (hR _ _ h)
noncomputable def b_X3_parentOf (n : Nat) (a0 : Nat) (x1 : Int32) (M : Mem) : Option (Int32 × Mem) := T_X3_parentOf_0 (fun v M => some (v, M)) none n a0 x1 M
set_option maxHeartbeats 4000000 in
set_option maxRecDepth 100000 in
theorem sb_X3_parentOf {X : Nat × (Nat → Int32)} {al : Bool} {n : Nat} {a0 : Nat} {x1 : Int32} {M : Mem} {v : Int32} {M1 : Mem} (h : b_X3_parentOf n a0 x1 M = some (v, M1)) : AE yX3_parentOf cX3_parentOf 2 (some .int) al n X [.ref a0, .int x1] M (some (.int v)) M1 := by
  refine AM.of false (by decide +kernel) (by intro h; cases h) (Nat.le_of_ble_eq_true rfl) ?_
  have h2 : T_X3_parentOf_0 (fun v2 M2 => some (v2, M2) = some (v, M1)) (none = some (v, M1)) n a0 x1 M := (n_X3_parentOf_0 (fun o => o = some (v, M1)) (fun v M => some (v, M)) none n a0 x1 M).mp h
  have h3 : ((none : Option (Int32 × Mem)) = some (v, M1)) = False := eq_false (by intro q; cases q)
  rw [h3] at h2
  exact w_X3_parentOf_0 (fun v2 M2 h => by cases h; exact ⟨rfl, rfl⟩) h2

noncomputable abbrev f_X3_parentOf := b_X3_parentOf
theorem s_X3_parentOf {X : Nat × (Nat → Int32)} {al : Bool} {n : Nat} {a0 : Nat} {x1 : Int32} {M : Mem} {v : Int32} {M1 : Mem} (h : f_X3_parentOf n a0 x1 M = some (v, M1)) : AE yX3_parentOf cX3_parentOf 2 (some .int) al n X [.ref a0, .int x1] M (some (.int v)) M1 := sb_X3_parentOf h
set_option maxHeartbeats 4000000 in
set_option maxRecDepth 100000 in
noncomputable def T_X3_rankOf_0.{u} {α : Sort u} (R : Int32 → Mem → α) (N : α) (n : Nat) (a0 : Nat) (x1 : Int32) (M : Mem) : α := if x1 < 0 then R (-1) M else if 200 ≤ x1 then R (-1) M else gd (fO M a0 3) N (bnd (M.2.2.2.2 a0 6) N (fun r5 => gd (fA M r5 1 x1) N (R (M.2.2.1 r5 (x1.toNatClampNeg)) M)))
set_option maxHeartbeats 4000000 in
set_option maxRecDepth 100000 in
theorem n_X3_rankOf_0.{u, v} {α : Sort u} {β : Sort v} (h : α → β) (R : Int32 → Mem → α) (N : α) (n : Nat) (a0 : Nat) (x1 : Int32) (M : Mem) : h (T_X3_rankOf_0 R N n a0 x1 M) = T_X3_rankOf_0 (fun v M => h (R v M)) (h N) n a0 x1 M := by
  simp only [T_X3_rankOf_0, nat_ite h, nat_gd h, nat_bnd h, nat_bnd2 h]
set_option maxHeartbeats 4000000 in
set_option maxRecDepth 100000 in
theorem w_X3_rankOf_0 {X : Nat × (Nat → Int32)} {al : Bool} {n : Nat} {Q : Option Value → Mem → Prop} {R : Int32 → Mem → Prop} (hR : ∀ v M, R v M → Q (some (.int v)) M) {a0 : Nat} {x1 : Int32} {M : Mem} (h : T_X3_rankOf_0 R False n a0 x1 M) : AW X (RX3, cX3_rankOf, 2, (some .int), false, al, n) 0 0 0 [(0, .ref a0), (1, .int x1)] [] M Q := by
  unfold T_X3_rankOf_0 at h
  refine a_iload_n dX3_rankOf_0 rfl rfl ?_
  refine a_if_lt 20 dX3_rankOf_1 (by decide) (fun c1 => ?_) (fun c1 => ?_)
  · replace h := ite_t c1 h
    refine a_iconst (v := -1) dX3_rankOf_20 (by decide) ?_
    exact a_iret dX3_rankOf_21 rfl (hR _ _ h)
  · replace h := ite_f c1 h
    refine a_iload_n dX3_rankOf_4 rfl rfl ?_
    refine a_sipush (v := 200) dX3_rankOf_5 (by decide) ?_
    refine a_icmp_ge 20 dX3_rankOf_8 (by decide) (fun c2 => ?_) (fun c2 => ?_)
    · replace h := ite_t c2 h
      refine a_iconst (v := -1) dX3_rankOf_20 (by decide) ?_
      exact a_iret dX3_rankOf_21 rfl (hR _ _ h)
    · replace h := ite_f c2 h
      refine a_aload_n dX3_rankOf_11 rfl rfl ?_
      obtain ⟨⟨ga3, gs4⟩, h⟩ := gd_t h
      obtain ⟨r5, e6, h⟩ := bnd_t h
      refine a_get (v := .ref r5) dX3_rankOf_12 fl_3_21 ga3 gs4 (gvR e6 rfl) ?_
      refine a_iload_n dX3_rankOf_15 rfl rfl ?_
      obtain ⟨⟨ga7, gn8, gs9, gi10⟩, h⟩ := gd_t h
      refine a_iaload dX3_rankOf_16 ga7 gs9 gi10 ?_
      refine a_goto 21 dX3_rankOf_17 (by decide) ?_
      exact a_iret dX3_rankOf_21 rfl (hR _ _ h)
noncomputable def b_X3_rankOf (n : Nat) (a0 : Nat) (x1 : Int32) (M : Mem) : Option (Int32 × Mem) := T_X3_rankOf_0 (fun v M => some (v, M)) none n a0 x1 M
set_option maxHeartbeats 4000000 in
set_option maxRecDepth 100000 in
theorem sb_X3_rankOf {X : Nat × (Nat → Int32)} {al : Bool} {n : Nat} {a0 : Nat} {x1 : Int32} {M : Mem} {v : Int32} {M1 : Mem} (h : b_X3_rankOf n a0 x1 M = some (v, M1)) : AE yX3_rankOf cX3_rankOf 2 (some .int) al n X [.ref a0, .int x1] M (some (.int v)) M1 := by
  refine AM.of false (by decide +kernel) (by intro h; cases h) (Nat.le_of_ble_eq_true rfl) ?_
  have h2 : T_X3_rankOf_0 (fun v2 M2 => some (v2, M2) = some (v, M1)) (none = some (v, M1)) n a0 x1 M := (n_X3_rankOf_0 (fun o => o = some (v, M1)) (fun v M => some (v, M)) none n a0 x1 M).mp h
  have h3 : ((none : Option (Int32 × Mem)) = some (v, M1)) = False := eq_false (by intro q; cases q)
  rw [h3] at h2
  exact w_X3_rankOf_0 (fun v2 M2 h => by cases h; exact ⟨rfl, rfl⟩) h2

noncomputable abbrev f_X3_rankOf := b_X3_rankOf
theorem s_X3_rankOf {X : Nat × (Nat → Int32)} {al : Bool} {n : Nat} {a0 : Nat} {x1 : Int32} {M : Mem} {v : Int32} {M1 : Mem} (h : f_X3_rankOf n a0 x1 M = some (v, M1)) : AE yX3_rankOf cX3_rankOf 2 (some .int) al n X [.ref a0, .int x1] M (some (.int v)) M1 := sb_X3_rankOf h
set_option maxHeartbeats 4000000 in
set_option maxRecDepth 100000 in
noncomputable def T_X3_isArm_0.{u} {α : Sort u} (R : Int32 → Mem → α) (N : α) (n : Nat) (a0 : Nat) (x1 : Int32) (M : Mem) : α := gd (fO M a0 3) N (bnd (M.2.2.2.2 a0 2) N (fun r3 => bnd2 (cal n (fun n => f_X3_parentOf n a0 x1 M)) N (fun v5 M6 => gd (fO M6 r3 9) N (bnd2 (cal n (fun n => f_X9_opAt n r3 v5 M6)) N (fun v12 M13 => if v12 = 2 then R 1 M13 else if v12 = 9 then gd (fO M13 a0 3) N (bnd2 (cal n (fun n => f_X3_rankOf n a0 x1 M13)) N (fun v21 M22 => if v21 ≤ 0 then R 0 M22 else R 1 M22)) else R 0 M13)))))
set_option maxHeartbeats 4000000 in
set_option maxRecDepth 100000 in
theorem n_X3_isArm_0.{u, v} {α : Sort u} {β : Sort v} (h : α → β) (R : Int32 → Mem → α) (N : α) (n : Nat) (a0 : Nat) (x1 : Int32) (M : Mem) : h (T_X3_isArm_0 R N n a0 x1 M) = T_X3_isArm_0 (fun v M => h (R v M)) (h N) n a0 x1 M := by
  simp only [T_X3_isArm_0, nat_ite h, nat_gd h, nat_bnd h, nat_bnd2 h]
set_option maxHeartbeats 4000000 in
set_option maxRecDepth 100000 in
theorem w_X3_isArm_0 {X : Nat × (Nat → Int32)} {al : Bool} {n : Nat} {Q : Option Value → Mem → Prop} {R : Int32 → Mem → Prop} (hR : ∀ v M, R v M → Q (some (.int v)) M) {a0 : Nat} {x1 : Int32} {M : Mem} (h : T_X3_isArm_0 R False n a0 x1 M) : AW X (RX3, cX3_isArm, 3, (some .boolean), false, al, n) 0 0 0 [(0, .ref a0), (1, .int x1)] [] M Q := by
  unfold T_X3_isArm_0 at h
  refine a_aload_n dX3_isArm_0 rfl rfl ?_
  obtain ⟨⟨ga1, gs2⟩, h⟩ := gd_t h
  obtain ⟨r3, e4, h⟩ := bnd_t h
  refine a_get (v := .ref r3) dX3_isArm_1 fl_3_50 ga1 gs2 (gvR e4 rfl) ?_
  refine a_aload_n dX3_isArm_4 rfl rfl ?_
  refine a_iload_n dX3_isArm_5 rfl rfl ?_
  obtain ⟨v5, M6, e7, h⟩ := bnd2_t h
  obtain ⟨n8, en9, e7⟩ := cal_t e7
  refine e_callV (As := [.int x1]) (st := [.ref r3]) (a := a0) (ci := 3) false dX3_isArm_6 mw_X3_parentOf (Or.inl ⟨rfl, ml_X3_101⟩) im_X3_parentOf se_X3_parentOf (by decide) ga1 gs2 rfl (Nat.le_of_ble_eq_true rfl) en9 (s_X3_parentOf e7) ?_
  obtain ⟨⟨ga10, gs11⟩, h⟩ := gd_t h
  obtain ⟨v12, M13, e14, h⟩ := bnd2_t h
  obtain ⟨n15, en16, e14⟩ := cal_t e14
  refine e_callV (As := [.int v5]) (st := []) (a := r3) (ci := 9) false dX3_isArm_9 mw_X9_opAt (Or.inl ⟨rfl, ml_X3_58⟩) im_X9_opAt se_X9_opAt (by decide) ga10 gs11 rfl (Nat.le_of_ble_eq_true rfl) en16 (s_X9_opAt e14) ?_
  refine a_istore_n dX3_isArm_12 rfl (Nat.le_of_ble_eq_true rfl) (lv2 := [(2, .int v12), (0, .ref a0), (1, .int x1)]) rfl ?_
  refine a_iload_n dX3_isArm_13 rfl rfl ?_
  refine a_iconst (v := 2) dX3_isArm_14 (by decide) ?_
  refine a_icmp_eq 32 dX3_isArm_15 (by decide) (fun c17 => ?_) (fun c17 => ?_)
  · replace h := ite_t c17 h
    refine a_iconst (v := 1) dX3_isArm_32 (by decide) ?_
    refine a_goto 37 dX3_isArm_33 (by decide) ?_
    exact a_zret dX3_isArm_37 rfl rfl (hR _ _ h)
  · replace h := ite_f c17 h
    refine a_iload_n dX3_isArm_18 rfl rfl ?_
    refine a_bipush (v := 9) dX3_isArm_19 (by decide) ?_
    refine a_icmp_ne 36 dX3_isArm_21 (by decide) (fun c18 => ?_) (fun c18 => ?_)
    · replace h := ite_f c18 h
      refine a_iconst (v := 0) dX3_isArm_36 (by decide) ?_
      exact a_zret dX3_isArm_37 rfl rfl (hR _ _ h)
    · replace h := ite_t c18 h
      refine a_aload_n dX3_isArm_24 rfl rfl ?_
      refine a_iload_n dX3_isArm_25 rfl rfl ?_
      obtain ⟨⟨ga19, gs20⟩, h⟩ := gd_t h
      obtain ⟨v21, M22, e23, h⟩ := bnd2_t h
      obtain ⟨n24, en25, e23⟩ := cal_t e23
      refine e_callV (As := [.int x1]) (st := []) (a := a0) (ci := 3) false dX3_isArm_26 mw_X3_rankOf (Or.inl ⟨rfl, ml_X3_104⟩) im_X3_rankOf se_X3_rankOf (by decide) ga19 gs20 rfl (Nat.le_of_ble_eq_true rfl) en25 (s_X3_rankOf e23) ?_
      refine a_if_le 36 dX3_isArm_29 (by decide) (fun c26 => ?_) (fun c26 => ?_)
      · replace h := ite_t c26 h
        refine a_iconst (v := 0) dX3_isArm_36 (by decide) ?_
        exact a_zret dX3_isArm_37 rfl rfl (hR _ _ h)
      · replace h := ite_f c26 h
        refine a_iconst (v := 1) dX3_isArm_32 (by decide) ?_
        refine a_goto 37 dX3_isArm_33 (by decide) ?_
        exact a_zret dX3_isArm_37 rfl rfl (hR _ _ h)
noncomputable def b_X3_isArm (n : Nat) (a0 : Nat) (x1 : Int32) (M : Mem) : Option (Int32 × Mem) := T_X3_isArm_0 (fun v M => some (v, M)) none n a0 x1 M
set_option maxHeartbeats 4000000 in
set_option maxRecDepth 100000 in
theorem sb_X3_isArm {X : Nat × (Nat → Int32)} {al : Bool} {n : Nat} {a0 : Nat} {x1 : Int32} {M : Mem} {v : Int32} {M1 : Mem} (h : b_X3_isArm n a0 x1 M = some (v, M1)) : AE yX3_isArm cX3_isArm 3 (some .boolean) al n X [.ref a0, .int x1] M (some (.int v)) M1 := by
  refine AM.of false (by decide +kernel) (by intro h; cases h) (Nat.le_of_ble_eq_true rfl) ?_
  have h2 : T_X3_isArm_0 (fun v2 M2 => some (v2, M2) = some (v, M1)) (none = some (v, M1)) n a0 x1 M := (n_X3_isArm_0 (fun o => o = some (v, M1)) (fun v M => some (v, M)) none n a0 x1 M).mp h
  have h3 : ((none : Option (Int32 × Mem)) = some (v, M1)) = False := eq_false (by intro q; cases q)
  rw [h3] at h2
  exact w_X3_isArm_0 (fun v2 M2 h => by cases h; exact ⟨rfl, rfl⟩) h2

noncomputable abbrev f_X3_isArm := b_X3_isArm
theorem s_X3_isArm {X : Nat × (Nat → Int32)} {al : Bool} {n : Nat} {a0 : Nat} {x1 : Int32} {M : Mem} {v : Int32} {M1 : Mem} (h : f_X3_isArm n a0 x1 M = some (v, M1)) : AE yX3_isArm cX3_isArm 3 (some .boolean) al n X [.ref a0, .int x1] M (some (.int v)) M1 := sb_X3_isArm h
def ix_X3_placeChildren (c : Nat) : List Nat := if c = 0 then [0, 1] else if c = 16 then [0, 1, 2, 3, 4] else []
def PW_X3_placeChildren (X : Nat × (Nat → Int32)) (al : Bool) (n : Nat) (Q : Option Value → Mem → Prop) (c : Nat) (l : List Value) (M : Mem) : Prop := AW X (RX3, cX3_placeChildren, 5, none, false, al, n) 0 0 c (List.zip (ix_X3_placeChildren c) l) (l.drop (ix_X3_placeChildren c).length) M Q
set_option maxHeartbeats 4000000 in
set_option maxRecDepth 100000 in
noncomputable def T_X3_placeChildren_0.{u} {α : Sort u} (J : Nat → List Value → Mem → α) (R : Unit → Mem → α) (N : α) (n : Nat) (a0 : Nat) (x1 : Int32) (M : Mem) : α := gd (fO M a0 3) N (bnd (M.2.2.2.2 a0 2) N (fun r3 => gd (fO M r3 9) N (bnd2 (cal n (fun n => f_X9_opAt n r3 x1 M)) N (fun v7 M8 => J 16 [.ref a0, .int x1, .int v7, .int (x1 + 1), .int 0] M8))))
set_option maxHeartbeats 4000000 in
set_option maxRecDepth 100000 in
theorem n_X3_placeChildren_0.{u, v} {α : Sort u} {β : Sort v} (h : α → β) (J : Nat → List Value → Mem → α) (R : Unit → Mem → α) (N : α) (n : Nat) (a0 : Nat) (x1 : Int32) (M : Mem) : h (T_X3_placeChildren_0 J R N n a0 x1 M) = T_X3_placeChildren_0 (fun c l M => h (J c l M)) (fun v M => h (R v M)) (h N) n a0 x1 M := by
  simp only [T_X3_placeChildren_0, nat_ite h, nat_gd h, nat_bnd h, nat_bnd2 h]
set_option maxHeartbeats 4000000 in
set_option maxRecDepth 100000 in
theorem w_X3_placeChildren_0 {X : Nat × (Nat → Int32)} {al : Bool} {n : Nat} {Q : Option Value → Mem → Prop} {J : Nat → List Value → Mem → Prop} (hJ : ∀ c l M, J c l M → PW_X3_placeChildren X al n Q c l M) {R : Unit → Mem → Prop} (hR : ∀ v M, R v M → Q none M) {a0 : Nat} {x1 : Int32} {M : Mem} (h : T_X3_placeChildren_0 J R False n a0 x1 M) : AW X (RX3, cX3_placeChildren, 5, none, false, al, n) 0 0 0 [(0, .ref a0), (1, .int x1)] [] M Q := by
  unfold T_X3_placeChildren_0 at h
  refine a_aload_n dX3_placeChildren_0 rfl rfl ?_
  obtain ⟨⟨ga1, gs2⟩, h⟩ := gd_t h
  obtain ⟨r3, e4, h⟩ := bnd_t h
  refine a_get (v := .ref r3) dX3_placeChildren_1 fl_3_50 ga1 gs2 (gvR e4 rfl) ?_
  refine a_iload_n dX3_placeChildren_4 rfl rfl ?_
  obtain ⟨⟨ga5, gs6⟩, h⟩ := gd_t h
  obtain ⟨v7, M8, e9, h⟩ := bnd2_t h
  obtain ⟨n10, en11, e9⟩ := cal_t e9
  refine e_callV (As := [.int x1]) (st := []) (a := r3) (ci := 9) false dX3_placeChildren_5 mw_X9_opAt (Or.inl ⟨rfl, ml_X3_58⟩) im_X9_opAt se_X9_opAt (by decide) ga5 gs6 rfl (Nat.le_of_ble_eq_true rfl) en11 (s_X9_opAt e9) ?_
  refine a_istore_n dX3_placeChildren_8 rfl (Nat.le_of_ble_eq_true rfl) (lv2 := [(2, .int v7), (0, .ref a0), (1, .int x1)]) rfl ?_
  refine a_iload_n dX3_placeChildren_9 rfl rfl ?_
  refine a_iconst (v := 1) dX3_placeChildren_10 (by decide) ?_
  refine a_iadd dX3_placeChildren_11 ?_
  refine a_istore_n dX3_placeChildren_12 rfl (Nat.le_of_ble_eq_true rfl) (lv2 := [(3, .int (x1 + 1)), (2, .int v7), (0, .ref a0), (1, .int x1)]) rfl ?_
  refine a_iconst (v := 0) dX3_placeChildren_13 (by decide) ?_
  refine a_istore dX3_placeChildren_14 (Nat.le_of_ble_eq_true rfl) (lv2 := [(4, .int 0), (3, .int (x1 + 1)), (2, .int v7), (0, .ref a0), (1, .int x1)]) rfl ?_
  exact a_lv (lv2 := [(0, .ref a0), (1, .int x1), (2, .int v7), (3, .int (x1 + 1)), (4, .int 0)]) (fa_cons rfl (fa_cons rfl (fa_cons rfl (fa_cons rfl (fa_cons rfl fa_nil))))) (hJ _ _ _ h)
set_option maxHeartbeats 4000000 in
set_option maxRecDepth 100000 in
noncomputable def T_X3_placeChildren_16.{u} {α : Sort u} (J : Nat → List Value → Mem → α) (R : Unit → Mem → α) (N : α) (n : Nat) (a0 : Nat) (x1 : Int32) (x2 : Int32) (x3 : Int32) (x4 : Int32) (M : Mem) : α := bnd2 (cal n (fun n => f_X10_arity n x2 M)) N (fun v1 M2 => if v1 ≤ x4 then R () M2 else if x3 < 0 then R () M2 else if 200 ≤ x3 then R () M2 else gd (fO M2 a0 3) N (bnd (M2.2.2.2.2 a0 5) N (fun r11 => gd (fA M2 r11 1 x3) N (bnd (M2.2.2.2.2 a0 6) N (fun r17 => gd (fA M2 r17 1 x3) N (bnd (M2.2.2.2.2 a0 7) N (fun r23 => bnd2 (cal n (fun n => f_X3_nestOf n a0 x1 (wI (wI M2 r11 (x3.toNatClampNeg) x1) r17 (x3.toNatClampNeg) x4))) N (fun v25 M26 => gd (fA M26 r23 1 x3) N (gd (fO M26 a0 3) N (bnd (M26.2.2.2.2 a0 4) N (fun r36 => bnd2 (cal n (fun n => f_X3_depthOf n a0 x1 (wI M26 r23 (x3.toNatClampNeg) (v25 + 1)))) N (fun v38 M39 => gd (fO M39 a0 3) N (bnd2 (cal n (fun n => f_X3_isArm n a0 x3 M39)) N (fun v45 M46 => if v45 = 0 then gd (fA M46 r36 1 x3) N (gd (fO M46 a0 3) N (bnd2 (cal n (fun n => f_X3_endOf n a0 x3 (wI M46 r36 (x3.toNatClampNeg) (v38 + 0)))) N (fun v57 M58 => J 16 [.ref a0, .int x1, .int x2, .int v57, .int (x4 + 1)] M58))) else gd (fA M46 r36 1 x3) N (gd (fO M46 a0 3) N (bnd2 (cal n (fun n => f_X3_endOf n a0 x3 (wI M46 r36 (x3.toNatClampNeg) (v38 + 1)))) N (fun v68 M69 => J 16 [.ref a0, .int x1, .int x2, .int v68, .int (x4 + 1)] M69)))))))))))))))))
set_option maxHeartbeats 4000000 in
set_option maxRecDepth 100000 in
theorem n_X3_placeChildren_16.{u, v} {α : Sort u} {β : Sort v} (h : α → β) (J : Nat → List Value → Mem → α) (R : Unit → Mem → α) (N : α) (n : Nat) (a0 : Nat) (x1 : Int32) (x2 : Int32) (x3 : Int32) (x4 : Int32) (M : Mem) : h (T_X3_placeChildren_16 J R N n a0 x1 x2 x3 x4 M) = T_X3_placeChildren_16 (fun c l M => h (J c l M)) (fun v M => h (R v M)) (h N) n a0 x1 x2 x3 x4 M := by
  simp only [T_X3_placeChildren_16, nat_ite h, nat_gd h, nat_bnd h, nat_bnd2 h]
set_option maxHeartbeats 4000000 in
set_option maxRecDepth 100000 in
theorem w_X3_placeChildren_16 {X : Nat × (Nat → Int32)} {al : Bool} {n : Nat} {Q : Option Value → Mem → Prop} {J : Nat → List Value → Mem → Prop} (hJ : ∀ c l M, J c l M → PW_X3_placeChildren X al n Q c l M) {R : Unit → Mem → Prop} (hR : ∀ v M, R v M → Q none M) {a0 : Nat} {x1 : Int32} {x2 : Int32} {x3 : Int32} {x4 : Int32} {M : Mem} (h : T_X3_placeChildren_16 J R False n a0 x1 x2 x3 x4 M) : AW X (RX3, cX3_placeChildren, 5, none, false, al, n) 0 0 16 [(0, .ref a0), (1, .int x1), (2, .int x2), (3, .int x3), (4, .int x4)] [] M Q := by
  unfold T_X3_placeChildren_16 at h
  refine a_iload dX3_placeChildren_16 rfl ?_
  refine a_iload_n dX3_placeChildren_18 rfl rfl ?_
  obtain ⟨v1, M2, e3, h⟩ := bnd2_t h
  obtain ⟨n4, en5, e3⟩ := cal_t e3
  refine e_callS (As := [.int x2]) (st := [.int x4]) true dX3_placeChildren_19 mw_X10_arity (Or.inr ⟨rfl, mn_X3_62⟩) sm_X10_arity rfl (Nat.le_of_ble_eq_true rfl) en5 (s_X10_arity e3) ?_
  refine a_icmp_ge 101 dX3_placeChildren_22 (by decide) (fun c6 => ?_) (fun c6 => ?_)
  · replace h := ite_t c6 h
    exact a_vret dX3_placeChildren_101 rfl (hR _ _ h)
  · replace h := ite_f c6 h
    refine a_iload_n dX3_placeChildren_25 rfl rfl ?_
    refine a_if_lt 101 dX3_placeChildren_26 (by decide) (fun c7 => ?_) (fun c7 => ?_)
    · replace h := ite_t c7 h
      exact a_vret dX3_placeChildren_101 rfl (hR _ _ h)
    · replace h := ite_f c7 h
      refine a_iload_n dX3_placeChildren_29 rfl rfl ?_
      refine a_sipush (v := 200) dX3_placeChildren_30 (by decide) ?_
      refine a_icmp_ge 101 dX3_placeChildren_33 (by decide) (fun c8 => ?_) (fun c8 => ?_)
      · replace h := ite_t c8 h
        exact a_vret dX3_placeChildren_101 rfl (hR _ _ h)
      · replace h := ite_f c8 h
        refine a_aload_n dX3_placeChildren_36 rfl rfl ?_
        obtain ⟨⟨ga9, gs10⟩, h⟩ := gd_t h
        obtain ⟨r11, e12, h⟩ := bnd_t h
        refine a_get (v := .ref r11) dX3_placeChildren_37 fl_3_18 ga9 gs10 (gvR e12 rfl) ?_
        refine a_iload_n dX3_placeChildren_40 rfl rfl ?_
        refine a_iload_n dX3_placeChildren_41 rfl rfl ?_
        obtain ⟨⟨ga13, gn14, gs15, gi16⟩, h⟩ := gd_t h
        refine a_iastore dX3_placeChildren_42 ga13 gs15 gi16 ?_
        refine a_aload_n dX3_placeChildren_43 rfl rfl ?_
        obtain ⟨r17, e18, h⟩ := bnd_t h
        refine a_get (v := .ref r17) dX3_placeChildren_44 fl_3_21 ga9 gs10 (gvR e18 rfl) ?_
        refine a_iload_n dX3_placeChildren_47 rfl rfl ?_
        refine a_iload dX3_placeChildren_48 rfl ?_
        obtain ⟨⟨ga19, gn20, gs21, gi22⟩, h⟩ := gd_t h
        refine a_iastore dX3_placeChildren_50 ga19 gs21 gi22 ?_
        refine a_aload_n dX3_placeChildren_51 rfl rfl ?_
        obtain ⟨r23, e24, h⟩ := bnd_t h
        refine a_get (v := .ref r23) dX3_placeChildren_52 fl_3_24 ga9 gs10 (gvR e24 rfl) ?_
        refine a_iload_n dX3_placeChildren_55 rfl rfl ?_
        refine a_aload_n dX3_placeChildren_56 rfl rfl ?_
        refine a_iload_n dX3_placeChildren_57 rfl rfl ?_
        obtain ⟨v25, M26, e27, h⟩ := bnd2_t h
        obtain ⟨n28, en29, e27⟩ := cal_t e27
        refine e_callV (As := [.int x1]) (st := [.int x3, .ref r23]) (a := a0) (ci := 3) false dX3_placeChildren_58 mw_X3_nestOf (Or.inl ⟨rfl, ml_X3_81⟩) im_X3_nestOf se_X3_nestOf (by decide) ga9 gs10 rfl (Nat.le_of_ble_eq_true rfl) en29 (s_X3_nestOf e27) ?_
        refine a_iconst (v := 1) dX3_placeChildren_61 (by decide) ?_
        refine a_iadd dX3_placeChildren_62 ?_
        obtain ⟨⟨ga30, gn31, gs32, gi33⟩, h⟩ := gd_t h
        refine a_iastore dX3_placeChildren_63 ga30 gs32 gi33 ?_
        refine a_aload_n dX3_placeChildren_64 rfl rfl ?_
        obtain ⟨⟨ga34, gs35⟩, h⟩ := gd_t h
        obtain ⟨r36, e37, h⟩ := bnd_t h
        refine a_get (v := .ref r36) dX3_placeChildren_65 fl_3_15 ga34 gs35 (gvR e37 rfl) ?_
        refine a_iload_n dX3_placeChildren_68 rfl rfl ?_
        refine a_aload_n dX3_placeChildren_69 rfl rfl ?_
        refine a_iload_n dX3_placeChildren_70 rfl rfl ?_
        obtain ⟨v38, M39, e40, h⟩ := bnd2_t h
        obtain ⟨n41, en42, e40⟩ := cal_t e40
        refine e_callV (As := [.int x1]) (st := [.int x3, .ref r36]) (a := a0) (ci := 3) false dX3_placeChildren_71 mw_X3_depthOf (Or.inl ⟨rfl, ml_X3_84⟩) im_X3_depthOf se_X3_depthOf (by decide) ga34 gs35 rfl (Nat.le_of_ble_eq_true rfl) en42 (s_X3_depthOf e40) ?_
        refine a_aload_n dX3_placeChildren_74 rfl rfl ?_
        refine a_iload_n dX3_placeChildren_75 rfl rfl ?_
        obtain ⟨⟨ga43, gs44⟩, h⟩ := gd_t h
        obtain ⟨v45, M46, e47, h⟩ := bnd2_t h
        obtain ⟨n48, en49, e47⟩ := cal_t e47
        refine e_callV (As := [.int x3]) (st := [.int v38, .int x3, .ref r36]) (a := a0) (ci := 3) false dX3_placeChildren_76 mw_X3_isArm (Or.inl ⟨rfl, ml_X3_87⟩) im_X3_isArm se_X3_isArm (by decide) ga43 gs44 rfl (Nat.le_of_ble_eq_true rfl) en49 (s_X3_isArm e47) ?_
        refine a_if_eq 86 dX3_placeChildren_79 (by decide) (fun c50 => ?_) (fun c50 => ?_)
        · replace h := ite_t c50 h
          refine a_iconst (v := 0) dX3_placeChildren_86 (by decide) ?_
          refine a_iadd dX3_placeChildren_87 ?_
          obtain ⟨⟨ga51, gn52, gs53, gi54⟩, h⟩ := gd_t h
          refine a_iastore dX3_placeChildren_88 ga51 gs53 gi54 ?_
          refine a_aload_n dX3_placeChildren_89 rfl rfl ?_
          refine a_iload_n dX3_placeChildren_90 rfl rfl ?_
          obtain ⟨⟨ga55, gs56⟩, h⟩ := gd_t h
          obtain ⟨v57, M58, e59, h⟩ := bnd2_t h
          obtain ⟨n60, en61, e59⟩ := cal_t e59
          refine e_callV (As := [.int x3]) (st := []) (a := a0) (ci := 3) false dX3_placeChildren_91 mw_X3_endOf (Or.inl ⟨rfl, ml_X3_65⟩) im_X3_endOf se_X3_endOf (by decide) ga55 gs56 rfl (Nat.le_of_ble_eq_true rfl) en61 (s_X3_endOf e59) ?_
          refine a_istore_n dX3_placeChildren_94 rfl (Nat.le_of_ble_eq_true rfl) (lv2 := [(3, .int v57), (0, .ref a0), (1, .int x1), (2, .int x2), (4, .int x4)]) rfl ?_
          refine a_iinc (v := (x4 + 1)) dX3_placeChildren_95 rfl (by first | rfl | decide) (Nat.le_of_ble_eq_true rfl) (lv2 := [(4, .int (x4 + 1)), (3, .int v57), (0, .ref a0), (1, .int x1), (2, .int x2)]) rfl ?_
          refine a_goto 16 dX3_placeChildren_98 (by decide) ?_
          exact a_lv (lv2 := [(0, .ref a0), (1, .int x1), (2, .int x2), (3, .int v57), (4, .int (x4 + 1))]) (fa_cons rfl (fa_cons rfl (fa_cons rfl (fa_cons rfl (fa_cons rfl fa_nil))))) (hJ _ _ _ h)
        · replace h := ite_f c50 h
          refine a_iconst (v := 1) dX3_placeChildren_82 (by decide) ?_
          refine a_goto 87 dX3_placeChildren_83 (by decide) ?_
          refine a_iadd dX3_placeChildren_87 ?_
          obtain ⟨⟨ga62, gn63, gs64, gi65⟩, h⟩ := gd_t h
          refine a_iastore dX3_placeChildren_88 ga62 gs64 gi65 ?_
          refine a_aload_n dX3_placeChildren_89 rfl rfl ?_
          refine a_iload_n dX3_placeChildren_90 rfl rfl ?_
          obtain ⟨⟨ga66, gs67⟩, h⟩ := gd_t h
          obtain ⟨v68, M69, e70, h⟩ := bnd2_t h
          obtain ⟨n71, en72, e70⟩ := cal_t e70
          refine e_callV (As := [.int x3]) (st := []) (a := a0) (ci := 3) false dX3_placeChildren_91 mw_X3_endOf (Or.inl ⟨rfl, ml_X3_65⟩) im_X3_endOf se_X3_endOf (by decide) ga66 gs67 rfl (Nat.le_of_ble_eq_true rfl) en72 (s_X3_endOf e70) ?_
          refine a_istore_n dX3_placeChildren_94 rfl (Nat.le_of_ble_eq_true rfl) (lv2 := [(3, .int v68), (0, .ref a0), (1, .int x1), (2, .int x2), (4, .int x4)]) rfl ?_
          refine a_iinc (v := (x4 + 1)) dX3_placeChildren_95 rfl (by first | rfl | decide) (Nat.le_of_ble_eq_true rfl) (lv2 := [(4, .int (x4 + 1)), (3, .int v68), (0, .ref a0), (1, .int x1), (2, .int x2)]) rfl ?_
          refine a_goto 16 dX3_placeChildren_98 (by decide) ?_
          exact a_lv (lv2 := [(0, .ref a0), (1, .int x1), (2, .int x2), (3, .int v68), (4, .int (x4 + 1))]) (fa_cons rfl (fa_cons rfl (fa_cons rfl (fa_cons rfl (fa_cons rfl fa_nil))))) (hJ _ _ _ h)
set_option maxHeartbeats 4000000 in
set_option maxRecDepth 100000 in
noncomputable def st_X3_placeChildren (n : Nat) (s : Sg) : Option (Sg ⊕ (Unit × Mem)) := if s.1 = 0 then vR s.2.1 none (fun a0 t => vI t none (fun x1 t => vE t none (T_X3_placeChildren_0 (fun c l M => some (.inl (c, l, M))) (fun v M => some (.inr (v, M))) none n a0 x1 s.2.2))) else if s.1 = 16 then vR s.2.1 none (fun a0 t => vI t none (fun x1 t => vI t none (fun x2 t => vI t none (fun x3 t => vI t none (fun x4 t => vE t none (T_X3_placeChildren_16 (fun c l M => some (.inl (c, l, M))) (fun v M => some (.inr (v, M))) none n a0 x1 x2 x3 x4 s.2.2)))))) else none
noncomputable abbrev g_X3_placeChildren_0 (n : Nat) (a0 : Nat) (x1 : Int32) (M : Mem) : Option (Unit × Mem) := lp (st_X3_placeChildren n) (0, [.ref a0, .int x1], M)
set_option maxHeartbeats 4000000 in
set_option maxRecDepth 100000 in
theorem ge_X3_placeChildren_0 (n : Nat) (a0 : Nat) (x1 : Int32) (M : Mem) : g_X3_placeChildren_0 n a0 x1 M = T_X3_placeChildren_0 (fun c l M => lp (st_X3_placeChildren n) (c, l, M)) (fun v M => some (v, M)) none n a0 x1 M := (lp_eq _ _).trans (n_X3_placeChildren_0 (lpK (st_X3_placeChildren n)) (fun c l M => some (.inl (c, l, M))) (fun v M => some (.inr (v, M))) none n a0 x1 M)
noncomputable abbrev g_X3_placeChildren_16 (n : Nat) (a0 : Nat) (x1 : Int32) (x2 : Int32) (x3 : Int32) (x4 : Int32) (M : Mem) : Option (Unit × Mem) := lp (st_X3_placeChildren n) (16, [.ref a0, .int x1, .int x2, .int x3, .int x4], M)
set_option maxHeartbeats 4000000 in
set_option maxRecDepth 100000 in
theorem ge_X3_placeChildren_16 (n : Nat) (a0 : Nat) (x1 : Int32) (x2 : Int32) (x3 : Int32) (x4 : Int32) (M : Mem) : g_X3_placeChildren_16 n a0 x1 x2 x3 x4 M = T_X3_placeChildren_16 (fun c l M => lp (st_X3_placeChildren n) (c, l, M)) (fun v M => some (v, M)) none n a0 x1 x2 x3 x4 M := (lp_eq _ _).trans (n_X3_placeChildren_16 (lpK (st_X3_placeChildren n)) (fun c l M => some (.inl (c, l, M))) (fun v M => some (.inr (v, M))) none n a0 x1 x2 x3 x4 M)
noncomputable def b_X3_placeChildren (n : Nat) (a0 : Nat) (x1 : Int32) (M : Mem) : Option (Unit × Mem) := g_X3_placeChildren_0 n a0 x1 M
set_option maxHeartbeats 4000000 in
set_option maxRecDepth 100000 in
theorem sb_X3_placeChildren {X : Nat × (Nat → Int32)} {al : Bool} {n : Nat} {a0 : Nat} {x1 : Int32} {M : Mem} {v : Unit} {M1 : Mem} (h : b_X3_placeChildren n a0 x1 M = some (v, M1)) : AE yX3_placeChildren cX3_placeChildren 5 none al n X [.ref a0, .int x1] M none M1 := by
  refine AM.of false (by decide +kernel) (by intro h; cases h) (Nat.le_of_ble_eq_true rfl) ?_
  refine lp_snd (P := fun s r => PW_X3_placeChildren X al n (fun v M2 => v = none ∧ M2 = r.2) s.1 s.2.1 s.2.2) ?_ h
  clear h
  rintro ⟨c, l, M⟩ r h
  unfold st_X3_placeChildren at h
  rcases ite_p h with ⟨e, h⟩ | ⟨e, h⟩
  · replace e : c = 0 := e
    subst e
    obtain ⟨a0, tt0, e, h⟩ := vR_p id h
    replace e : l = _ := e
    subst e
    obtain ⟨x1, tt1, e, h⟩ := vI_p id h
    replace e : tt0 = _ := e
    subst e
    obtain ⟨e, h⟩ := vE_p id h
    replace e : tt1 = [] := e
    subst e
    exact w_X3_placeChildren_0 (J := fun c l M => PW_X3_placeChildren X al n (fun v M2 => v = none ∧ M2 = r.2) c l M) (R := fun v M => (v, M) = r) (fun _ _ _ h => h) (fun v M h => by cases h; exact ⟨rfl, rfl⟩) ((n_X3_placeChildren_0 (lpP (fun (s : Sg) (r : Unit × Mem) => PW_X3_placeChildren X al n (fun v M2 => v = none ∧ M2 = r.2) s.1 s.2.1 s.2.2) r) (fun c l M => some (.inl (c, l, M))) (fun v M => some (.inr (v, M))) none n a0 x1 M).mp h)
  rcases ite_p h with ⟨e, h⟩ | ⟨e, h⟩
  · replace e : c = 16 := e
    subst e
    obtain ⟨a0, tt0, e, h⟩ := vR_p id h
    replace e : l = _ := e
    subst e
    obtain ⟨x1, tt1, e, h⟩ := vI_p id h
    replace e : tt0 = _ := e
    subst e
    obtain ⟨x2, tt2, e, h⟩ := vI_p id h
    replace e : tt1 = _ := e
    subst e
    obtain ⟨x3, tt3, e, h⟩ := vI_p id h
    replace e : tt2 = _ := e
    subst e
    obtain ⟨x4, tt4, e, h⟩ := vI_p id h
    replace e : tt3 = _ := e
    subst e
    obtain ⟨e, h⟩ := vE_p id h
    replace e : tt4 = [] := e
    subst e
    exact w_X3_placeChildren_16 (J := fun c l M => PW_X3_placeChildren X al n (fun v M2 => v = none ∧ M2 = r.2) c l M) (R := fun v M => (v, M) = r) (fun _ _ _ h => h) (fun v M h => by cases h; exact ⟨rfl, rfl⟩) ((n_X3_placeChildren_16 (lpP (fun (s : Sg) (r : Unit × Mem) => PW_X3_placeChildren X al n (fun v M2 => v = none ∧ M2 = r.2) s.1 s.2.1 s.2.2) r) (fun c l M => some (.inl (c, l, M))) (fun v M => some (.inr (v, M))) none n a0 x1 x2 x3 x4 M).mp h)
  · exact h.elim

noncomputable abbrev f_X3_placeChildren := b_X3_placeChildren
theorem s_X3_placeChildren {X : Nat × (Nat → Int32)} {al : Bool} {n : Nat} {a0 : Nat} {x1 : Int32} {M : Mem} {v : Unit} {M1 : Mem} (h : f_X3_placeChildren n a0 x1 M = some (v, M1)) : AE yX3_placeChildren cX3_placeChildren 5 none al n X [.ref a0, .int x1] M none M1 := sb_X3_placeChildren h
set_option maxHeartbeats 4000000 in
set_option maxRecDepth 100000 in
noncomputable def T_X3_addToWalk_0.{u} {α : Sort u} (R : Unit → Mem → α) (N : α) (n : Nat) (a0 : Nat) (x1 : Int32) (M : Mem) : α := gd (fO M a0 3) N (if (M.2.2.1 a0 12) < 0 then R () M else bnd (M.2.2.2.2 a0 11) N (fun r4 => bnd (aLen M r4) N (fun z6 => if (Int32.ofNat z6) ≤ (M.2.2.1 a0 12) then R () M else gd (fA M r4 1 (M.2.2.1 a0 12)) N (R () (wI (wI M r4 ((M.2.2.1 a0 12).toNatClampNeg) x1) a0 12 (((wI M r4 ((M.2.2.1 a0 12).toNatClampNeg) x1).2.2.1 a0 12) + 1))))))
set_option maxHeartbeats 4000000 in
set_option maxRecDepth 100000 in
theorem n_X3_addToWalk_0.{u, v} {α : Sort u} {β : Sort v} (h : α → β) (R : Unit → Mem → α) (N : α) (n : Nat) (a0 : Nat) (x1 : Int32) (M : Mem) : h (T_X3_addToWalk_0 R N n a0 x1 M) = T_X3_addToWalk_0 (fun v M => h (R v M)) (h N) n a0 x1 M := by
  simp only [T_X3_addToWalk_0, nat_ite h, nat_gd h, nat_bnd h, nat_bnd2 h]
set_option maxHeartbeats 4000000 in
set_option maxRecDepth 100000 in
theorem w_X3_addToWalk_0 {X : Nat × (Nat → Int32)} {al : Bool} {n : Nat} {Q : Option Value → Mem → Prop} {R : Unit → Mem → Prop} (hR : ∀ v M, R v M → Q none M) {a0 : Nat} {x1 : Int32} {M : Mem} (h : T_X3_addToWalk_0 R False n a0 x1 M) : AW X (RX3, cX3_addToWalk, 2, none, false, al, n) 0 0 0 [(0, .ref a0), (1, .int x1)] [] M Q := by
  unfold T_X3_addToWalk_0 at h
  refine a_aload_n dX3_addToWalk_0 rfl rfl ?_
  obtain ⟨⟨ga1, gs2⟩, h⟩ := gd_t h
  refine a_get (v := .int (M.2.2.1 a0 12)) dX3_addToWalk_1 fl_3_68 ga1 gs2 rfl ?_
  refine a_if_lt 39 dX3_addToWalk_4 (by decide) (fun c3 => ?_) (fun c3 => ?_)
  · replace h := ite_t c3 h
    exact a_vret dX3_addToWalk_39 rfl (hR _ _ h)
  · replace h := ite_f c3 h
    refine a_aload_n dX3_addToWalk_7 rfl rfl ?_
    refine a_get (v := .int (M.2.2.1 a0 12)) dX3_addToWalk_8 fl_3_68 ga1 gs2 rfl ?_
    refine a_aload_n dX3_addToWalk_11 rfl rfl ?_
    obtain ⟨r4, e5, h⟩ := bnd_t h
    refine a_get (v := .ref r4) dX3_addToWalk_12 fl_3_36 ga1 gs2 (gvR e5 rfl) ?_
    obtain ⟨z6, e7, h⟩ := bnd_t h
    obtain ⟨ga8, gt9, gu10, gs11⟩ := aLen_t e7
    refine a_alen gu10 dX3_addToWalk_15 ga8 gs11 rfl ?_
    refine a_icmp_ge 39 dX3_addToWalk_16 (by decide) (fun c12 => ?_) (fun c12 => ?_)
    · replace h := ite_t c12 h
      exact a_vret dX3_addToWalk_39 rfl (hR _ _ h)
    · replace h := ite_f c12 h
      refine a_aload_n dX3_addToWalk_19 rfl rfl ?_
      refine a_get (v := .ref r4) dX3_addToWalk_20 fl_3_36 ga1 gs2 (gvR e5 rfl) ?_
      refine a_aload_n dX3_addToWalk_23 rfl rfl ?_
      refine a_get (v := .int (M.2.2.1 a0 12)) dX3_addToWalk_24 fl_3_68 ga1 gs2 rfl ?_
      refine a_iload_n dX3_addToWalk_27 rfl rfl ?_
      obtain ⟨⟨ga13, gn14, gs15, gi16⟩, h⟩ := gd_t h
      refine a_iastore dX3_addToWalk_28 ga13 gs15 gi16 ?_
      refine a_aload_n dX3_addToWalk_29 rfl rfl ?_
      refine a_dup dX3_addToWalk_30 rfl ?_
      refine a_get (v := .int ((wI M r4 ((M.2.2.1 a0 12).toNatClampNeg) x1).2.2.1 a0 12)) dX3_addToWalk_31 fl_3_68 ga1 gs2 rfl ?_
      refine a_iconst (v := 1) dX3_addToWalk_34 (by decide) ?_
      refine a_iadd dX3_addToWalk_35 ?_
      refine a_putI dX3_addToWalk_36 (Or.inl ⟨fl_3_68, Or.inl rfl⟩) rfl ga1 gs2 rfl rfl ?_
      exact a_vret dX3_addToWalk_39 rfl (hR _ _ h)
noncomputable def b_X3_addToWalk (n : Nat) (a0 : Nat) (x1 : Int32) (M : Mem) : Option (Unit × Mem) := T_X3_addToWalk_0 (fun v M => some (v, M)) none n a0 x1 M
set_option maxHeartbeats 4000000 in
set_option maxRecDepth 100000 in
theorem sb_X3_addToWalk {X : Nat × (Nat → Int32)} {al : Bool} {n : Nat} {a0 : Nat} {x1 : Int32} {M : Mem} {v : Unit} {M1 : Mem} (h : b_X3_addToWalk n a0 x1 M = some (v, M1)) : AE yX3_addToWalk cX3_addToWalk 2 none al n X [.ref a0, .int x1] M none M1 := by
  refine AM.of false (by decide +kernel) (by intro h; cases h) (Nat.le_of_ble_eq_true rfl) ?_
  have h2 : T_X3_addToWalk_0 (fun v2 M2 => some (v2, M2) = some (v, M1)) (none = some (v, M1)) n a0 x1 M := (n_X3_addToWalk_0 (fun o => o = some (v, M1)) (fun v M => some (v, M)) none n a0 x1 M).mp h
  have h3 : ((none : Option (Unit × Mem)) = some (v, M1)) = False := eq_false (by intro q; cases q)
  rw [h3] at h2
  exact w_X3_addToWalk_0 (fun v2 M2 h => by cases h; exact ⟨rfl, rfl⟩) h2

noncomputable abbrev f_X3_addToWalk := b_X3_addToWalk
theorem s_X3_addToWalk {X : Nat × (Nat → Int32)} {al : Bool} {n : Nat} {a0 : Nat} {x1 : Int32} {M : Mem} {v : Unit} {M1 : Mem} (h : f_X3_addToWalk n a0 x1 M = some (v, M1)) : AE yX3_addToWalk cX3_addToWalk 2 none al n X [.ref a0, .int x1] M none M1 := sb_X3_addToWalk h
set_option maxHeartbeats 4000000 in
set_option maxRecDepth 100000 in
noncomputable def T_X9_argAt_0.{u} {α : Sort u} (R : Int32 → Mem → α) (N : α) (n : Nat) (a0 : Nat) (x1 : Int32) (M : Mem) : α := if x1 < 0 then R (-1) M else gd (fO M a0 9) N (if (M.2.2.1 a0 2) ≤ x1 then R (-1) M else bnd (M.2.2.2.2 a0 1) N (fun r5 => gd (fA M r5 1 x1) N (R (M.2.2.1 r5 (x1.toNatClampNeg)) M)))
set_option maxHeartbeats 4000000 in
set_option maxRecDepth 100000 in
theorem n_X9_argAt_0.{u, v} {α : Sort u} {β : Sort v} (h : α → β) (R : Int32 → Mem → α) (N : α) (n : Nat) (a0 : Nat) (x1 : Int32) (M : Mem) : h (T_X9_argAt_0 R N n a0 x1 M) = T_X9_argAt_0 (fun v M => h (R v M)) (h N) n a0 x1 M := by
  simp only [T_X9_argAt_0, nat_ite h, nat_gd h, nat_bnd h, nat_bnd2 h]
set_option maxHeartbeats 4000000 in
set_option maxRecDepth 100000 in
theorem w_X9_argAt_0 {X : Nat × (Nat → Int32)} {al : Bool} {n : Nat} {Q : Option Value → Mem → Prop} {R : Int32 → Mem → Prop} (hR : ∀ v M, R v M → Q (some (.int v)) M) {a0 : Nat} {x1 : Int32} {M : Mem} (h : T_X9_argAt_0 R False n a0 x1 M) : AW X (RX9, cX9_argAt, 2, (some .int), false, al, n) 0 0 0 [(0, .ref a0), (1, .int x1)] [] M Q := by
  unfold T_X9_argAt_0 at h
  refine a_iload_n dX9_argAt_0 rfl rfl ?_
  refine a_if_lt 21 dX9_argAt_1 (by decide) (fun c1 => ?_) (fun c1 => ?_)
  · replace h := ite_t c1 h
    refine a_iconst (v := -1) dX9_argAt_21 (by decide) ?_
    exact a_iret dX9_argAt_22 rfl (hR _ _ h)
  · replace h := ite_f c1 h
    refine a_iload_n dX9_argAt_4 rfl rfl ?_
    refine a_aload_n dX9_argAt_5 rfl rfl ?_
    obtain ⟨⟨ga2, gs3⟩, h⟩ := gd_t h
    refine a_get (v := .int (M.2.2.1 a0 2)) dX9_argAt_6 fl_9_18 ga2 gs3 rfl ?_
    refine a_icmp_ge 21 dX9_argAt_9 (by decide) (fun c4 => ?_) (fun c4 => ?_)
    · replace h := ite_t c4 h
      refine a_iconst (v := -1) dX9_argAt_21 (by decide) ?_
      exact a_iret dX9_argAt_22 rfl (hR _ _ h)
    · replace h := ite_f c4 h
      refine a_aload_n dX9_argAt_12 rfl rfl ?_
      obtain ⟨r5, e6, h⟩ := bnd_t h
      refine a_get (v := .ref r5) dX9_argAt_13 fl_9_15 ga2 gs3 (gvR e6 rfl) ?_
      refine a_iload_n dX9_argAt_16 rfl rfl ?_
      obtain ⟨⟨ga7, gn8, gs9, gi10⟩, h⟩ := gd_t h
      refine a_iaload dX9_argAt_17 ga7 gs9 gi10 ?_
      refine a_goto 22 dX9_argAt_18 (by decide) ?_
      exact a_iret dX9_argAt_22 rfl (hR _ _ h)
noncomputable def b_X9_argAt (n : Nat) (a0 : Nat) (x1 : Int32) (M : Mem) : Option (Int32 × Mem) := T_X9_argAt_0 (fun v M => some (v, M)) none n a0 x1 M
set_option maxHeartbeats 4000000 in
set_option maxRecDepth 100000 in
theorem sb_X9_argAt {X : Nat × (Nat → Int32)} {al : Bool} {n : Nat} {a0 : Nat} {x1 : Int32} {M : Mem} {v : Int32} {M1 : Mem} (h : b_X9_argAt n a0 x1 M = some (v, M1)) : AE yX9_argAt cX9_argAt 2 (some .int) al n X [.ref a0, .int x1] M (some (.int v)) M1 := by
  refine AM.of false (by decide +kernel) (by intro h; cases h) (Nat.le_of_ble_eq_true rfl) ?_
  have h2 : T_X9_argAt_0 (fun v2 M2 => some (v2, M2) = some (v, M1)) (none = some (v, M1)) n a0 x1 M := (n_X9_argAt_0 (fun o => o = some (v, M1)) (fun v M => some (v, M)) none n a0 x1 M).mp h
  have h3 : ((none : Option (Int32 × Mem)) = some (v, M1)) = False := eq_false (by intro q; cases q)
  rw [h3] at h2
  exact w_X9_argAt_0 (fun v2 M2 h => by cases h; exact ⟨rfl, rfl⟩) h2

noncomputable abbrev f_X9_argAt := b_X9_argAt
theorem s_X9_argAt {X : Nat × (Nat → Int32)} {al : Bool} {n : Nat} {a0 : Nat} {x1 : Int32} {M : Mem} {v : Int32} {M1 : Mem} (h : f_X9_argAt n a0 x1 M = some (v, M1)) : AE yX9_argAt cX9_argAt 2 (some .int) al n X [.ref a0, .int x1] M (some (.int v)) M1 := sb_X9_argAt h
def ix_X3_bind (c : Nat) : List Nat := if c = 0 then [0, 1] else if c = 54 then [0, 1] else []
def PW_X3_bind (X : Nat × (Nat → Int32)) (al : Bool) (n : Nat) (Q : Option Value → Mem → Prop) (c : Nat) (l : List Value) (M : Mem) : Prop := AW X (RX3, cX3_bind, 3, none, false, al, n) 0 0 c (List.zip (ix_X3_bind c) l) (l.drop (ix_X3_bind c).length) M Q
set_option maxHeartbeats 4000000 in
set_option maxRecDepth 100000 in
noncomputable def T_X3_bind_0.{u} {α : Sort u} (J : Nat → List Value → Mem → α) (R : Unit → Mem → α) (N : α) (n : Nat) (a0 : Nat) (x1 : Int32) (M : Mem) : α := if x1 < 0 then R () M else if x1 < 200 then gd (fO M a0 3) N (bnd (M.2.2.2.2 a0 4) N (fun r5 => gd (fA M r5 1 x1) N (bnd2 (cal n (fun n => f_X3_isArm n a0 x1 M)) N (fun v11 M12 => if v11 = 0 then J 54 [.ref a0, .int x1] M12 else if ((M.2.2.1 r5 (x1.toNatClampNeg)) - 1) < 0 then J 54 [.ref a0, .int x1] M12 else if 200 ≤ ((M.2.2.1 r5 (x1.toNatClampNeg)) - 1) then J 54 [.ref a0, .int x1] M12 else gd (fO M12 a0 3) N (bnd (M12.2.2.2.2 a0 9) N (fun r21 => gd (fA M12 r21 1 ((M.2.2.1 r5 (x1.toNatClampNeg)) - 1)) N (bnd2 (cal n (fun n => f_X3_addToWalk n a0 ((-1) - x1) (wI M12 r21 (((M.2.2.1 r5 (x1.toNatClampNeg)) - 1).toNatClampNeg) x1))) N (fun _ M27 => J 54 [.ref a0, .int x1] M27)))))))) else R () M
set_option maxHeartbeats 4000000 in
set_option maxRecDepth 100000 in
theorem n_X3_bind_0.{u, v} {α : Sort u} {β : Sort v} (h : α → β) (J : Nat → List Value → Mem → α) (R : Unit → Mem → α) (N : α) (n : Nat) (a0 : Nat) (x1 : Int32) (M : Mem) : h (T_X3_bind_0 J R N n a0 x1 M) = T_X3_bind_0 (fun c l M => h (J c l M)) (fun v M => h (R v M)) (h N) n a0 x1 M := by
  simp only [T_X3_bind_0, nat_ite h, nat_gd h, nat_bnd h, nat_bnd2 h]
set_option maxHeartbeats 4000000 in
set_option maxRecDepth 100000 in
theorem w_X3_bind_0 {X : Nat × (Nat → Int32)} {al : Bool} {n : Nat} {Q : Option Value → Mem → Prop} {J : Nat → List Value → Mem → Prop} (hJ : ∀ c l M, J c l M → PW_X3_bind X al n Q c l M) {R : Unit → Mem → Prop} (hR : ∀ v M, R v M → Q none M) {a0 : Nat} {x1 : Int32} {M : Mem} (h : T_X3_bind_0 J R False n a0 x1 M) : AW X (RX3, cX3_bind, 3, none, false, al, n) 0 0 0 [(0, .ref a0), (1, .int x1)] [] M Q := by
  unfold T_X3_bind_0 at h
  refine a_iload_n dX3_bind_0 rfl rfl ?_
  refine a_if_lt 11 dX3_bind_1 (by decide) (fun c1 => ?_) (fun c1 => ?_)
  · replace h := ite_t c1 h
    exact a_vret dX3_bind_11 rfl (hR _ _ h)
  · replace h := ite_f c1 h
    refine a_iload_n dX3_bind_4 rfl rfl ?_
    refine a_sipush (v := 200) dX3_bind_5 (by decide) ?_
    refine a_icmp_lt 12 dX3_bind_8 (by decide) (fun c2 => ?_) (fun c2 => ?_)
    · replace h := ite_t c2 h
      refine a_aload_n dX3_bind_12 rfl rfl ?_
      obtain ⟨⟨ga3, gs4⟩, h⟩ := gd_t h
      obtain ⟨r5, e6, h⟩ := bnd_t h
      refine a_get (v := .ref r5) dX3_bind_13 fl_3_15 ga3 gs4 (gvR e6 rfl) ?_
      refine a_iload_n dX3_bind_16 rfl rfl ?_
      obtain ⟨⟨ga7, gn8, gs9, gi10⟩, h⟩ := gd_t h
      refine a_iaload dX3_bind_17 ga7 gs9 gi10 ?_
      refine a_iconst (v := 1) dX3_bind_18 (by decide) ?_
      refine a_isub dX3_bind_19 ?_
      refine a_istore_n dX3_bind_20 rfl (Nat.le_of_ble_eq_true rfl) (lv2 := [(2, .int ((M.2.2.1 r5 (x1.toNatClampNeg)) - 1)), (0, .ref a0), (1, .int x1)]) rfl ?_
      refine a_aload_n dX3_bind_21 rfl rfl ?_
      refine a_iload_n dX3_bind_22 rfl rfl ?_
      obtain ⟨v11, M12, e13, h⟩ := bnd2_t h
      obtain ⟨n14, en15, e13⟩ := cal_t e13
      refine e_callV (As := [.int x1]) (st := []) (a := a0) (ci := 3) false dX3_bind_23 mw_X3_isArm (Or.inl ⟨rfl, ml_X3_87⟩) im_X3_isArm se_X3_isArm (by decide) ga3 gs4 rfl (Nat.le_of_ble_eq_true rfl) en15 (s_X3_isArm e13) ?_
      refine a_if_eq 54 dX3_bind_26 (by decide) (fun c16 => ?_) (fun c16 => ?_)
      · replace h := ite_t c16 h
        exact a_lv (lv2 := [(0, .ref a0), (1, .int x1)]) (fa_cons rfl (fa_cons rfl fa_nil)) (hJ _ _ _ h)
      · replace h := ite_f c16 h
        refine a_iload_n dX3_bind_29 rfl rfl ?_
        refine a_if_lt 54 dX3_bind_30 (by decide) (fun c17 => ?_) (fun c17 => ?_)
        · replace h := ite_t c17 h
          exact a_lv (lv2 := [(0, .ref a0), (1, .int x1)]) (fa_cons rfl (fa_cons rfl fa_nil)) (hJ _ _ _ h)
        · replace h := ite_f c17 h
          refine a_iload_n dX3_bind_33 rfl rfl ?_
          refine a_sipush (v := 200) dX3_bind_34 (by decide) ?_
          refine a_icmp_ge 54 dX3_bind_37 (by decide) (fun c18 => ?_) (fun c18 => ?_)
          · replace h := ite_t c18 h
            exact a_lv (lv2 := [(0, .ref a0), (1, .int x1)]) (fa_cons rfl (fa_cons rfl fa_nil)) (hJ _ _ _ h)
          · replace h := ite_f c18 h
            refine a_aload_n dX3_bind_40 rfl rfl ?_
            obtain ⟨⟨ga19, gs20⟩, h⟩ := gd_t h
            obtain ⟨r21, e22, h⟩ := bnd_t h
            refine a_get (v := .ref r21) dX3_bind_41 fl_3_30 ga19 gs20 (gvR e22 rfl) ?_
            refine a_iload_n dX3_bind_44 rfl rfl ?_
            refine a_iload_n dX3_bind_45 rfl rfl ?_
            obtain ⟨⟨ga23, gn24, gs25, gi26⟩, h⟩ := gd_t h
            refine a_iastore dX3_bind_46 ga23 gs25 gi26 ?_
            refine a_aload_n dX3_bind_47 rfl rfl ?_
            refine a_iconst (v := -1) dX3_bind_48 (by decide) ?_
            refine a_iload_n dX3_bind_49 rfl rfl ?_
            refine a_isub dX3_bind_50 ?_
            obtain ⟨_, M27, e28, h⟩ := bnd2_t h
            obtain ⟨n29, en30, e28⟩ := cal_t e28
            refine e_callV (As := [.int ((-1) - x1)]) (st := []) (a := a0) (ci := 3) false dX3_bind_51 mw_X3_addToWalk (Or.inl ⟨rfl, ml_X3_91⟩) im_X3_addToWalk se_X3_addToWalk (by decide) ga19 gs20 rfl (Nat.le_of_ble_eq_true rfl) en30 (s_X3_addToWalk e28) ?_
            exact a_lv (lv2 := [(0, .ref a0), (1, .int x1)]) (fa_cons rfl (fa_cons rfl fa_nil)) (hJ _ _ _ h)
    · replace h := ite_f c2 h
      exact a_vret dX3_bind_11 rfl (hR _ _ h)
set_option maxHeartbeats 4000000 in
set_option maxRecDepth 100000 in
noncomputable def T_X3_bind_54.{u} {α : Sort u} (J : Nat → List Value → Mem → α) (R : Unit → Mem → α) (N : α) (n : Nat) (a0 : Nat) (x1 : Int32) (M : Mem) : α := gd (fO M a0 3) N (bnd (M.2.2.2.2 a0 8) N (fun r3 => bnd (M.2.2.2.2 a0 2) N (fun r5 => gd (fO M r5 9) N (bnd2 (cal n (fun n => f_X9_opAt n r5 x1 M)) N (fun v9 M10 => if v9 = 1 then gd (fO M10 a0 3) N (bnd (M10.2.2.2.2 a0 9) N (fun r21 => bnd (M10.2.2.2.2 a0 2) N (fun r23 => gd (fO M10 r23 9) N (bnd2 (cal n (fun n => f_X9_argAt n r23 x1 M10)) N (fun v27 M28 => bnd2 (cal n (fun n => f_X10_at n r21 v27 M28)) N (fun v32 M33 => gd (fA M33 r3 1 x1) N (R () (wI M33 r3 (x1.toNatClampNeg) v32)))))))) else gd (fA M10 r3 1 x1) N (R () (wI M10 r3 (x1.toNatClampNeg) (-1))))))))
set_option maxHeartbeats 4000000 in
set_option maxRecDepth 100000 in
theorem n_X3_bind_54.{u, v} {α : Sort u} {β : Sort v} (h : α → β) (J : Nat → List Value → Mem → α) (R : Unit → Mem → α) (N : α) (n : Nat) (a0 : Nat) (x1 : Int32) (M : Mem) : h (T_X3_bind_54 J R N n a0 x1 M) = T_X3_bind_54 (fun c l M => h (J c l M)) (fun v M => h (R v M)) (h N) n a0 x1 M := by
  simp only [T_X3_bind_54, nat_ite h, nat_gd h, nat_bnd h, nat_bnd2 h]
set_option maxHeartbeats 4000000 in
set_option maxRecDepth 100000 in
theorem w_X3_bind_54 {X : Nat × (Nat → Int32)} {al : Bool} {n : Nat} {Q : Option Value → Mem → Prop} {J : Nat → List Value → Mem → Prop} (hJ : ∀ c l M, J c l M → PW_X3_bind X al n Q c l M) {R : Unit → Mem → Prop} (hR : ∀ v M, R v M → Q none M) {a0 : Nat} {x1 : Int32} {M : Mem} (h : T_X3_bind_54 J R False n a0 x1 M) : AW X (RX3, cX3_bind, 3, none, false, al, n) 0 0 54 [(0, .ref a0), (1, .int x1)] [] M Q := by
  unfold T_X3_bind_54 at h
  refine a_aload_n dX3_bind_54 rfl rfl ?_
  obtain ⟨⟨ga1, gs2⟩, h⟩ := gd_t h
  obtain ⟨r3, e4, h⟩ := bnd_t h
  refine a_get (v := .ref r3) dX3_bind_55 fl_3_27 ga1 gs2 (gvR e4 rfl) ?_
  refine a_iload_n dX3_bind_58 rfl rfl ?_
  refine a_aload_n dX3_bind_59 rfl rfl ?_
  obtain ⟨r5, e6, h⟩ := bnd_t h
  refine a_get (v := .ref r5) dX3_bind_60 fl_3_50 ga1 gs2 (gvR e6 rfl) ?_
  refine a_iload_n dX3_bind_63 rfl rfl ?_
  obtain ⟨⟨ga7, gs8⟩, h⟩ := gd_t h
  obtain ⟨v9, M10, e11, h⟩ := bnd2_t h
  obtain ⟨n12, en13, e11⟩ := cal_t e11
  refine e_callV (As := [.int x1]) (st := [.int x1, .ref r3]) (a := r5) (ci := 9) false dX3_bind_64 mw_X9_opAt (Or.inl ⟨rfl, ml_X3_58⟩) im_X9_opAt se_X9_opAt (by decide) ga7 gs8 rfl (Nat.le_of_ble_eq_true rfl) en13 (s_X9_opAt e11) ?_
  refine a_iconst (v := 1) dX3_bind_67 (by decide) ?_
  refine a_icmp_ne 89 dX3_bind_68 (by decide) (fun c14 => ?_) (fun c14 => ?_)
  · replace h := ite_f c14 h
    refine a_iconst (v := -1) dX3_bind_89 (by decide) ?_
    obtain ⟨⟨ga15, gn16, gs17, gi18⟩, h⟩ := gd_t h
    refine a_iastore dX3_bind_90 ga15 gs17 gi18 ?_
    exact a_vret dX3_bind_91 rfl (hR _ _ h)
  · replace h := ite_t c14 h
    refine a_aload_n dX3_bind_71 rfl rfl ?_
    obtain ⟨⟨ga19, gs20⟩, h⟩ := gd_t h
    obtain ⟨r21, e22, h⟩ := bnd_t h
    refine a_get (v := .ref r21) dX3_bind_72 fl_3_30 ga19 gs20 (gvR e22 rfl) ?_
    refine a_aload_n dX3_bind_75 rfl rfl ?_
    obtain ⟨r23, e24, h⟩ := bnd_t h
    refine a_get (v := .ref r23) dX3_bind_76 fl_3_50 ga19 gs20 (gvR e24 rfl) ?_
    refine a_iload_n dX3_bind_79 rfl rfl ?_
    obtain ⟨⟨ga25, gs26⟩, h⟩ := gd_t h
    obtain ⟨v27, M28, e29, h⟩ := bnd2_t h
    obtain ⟨n30, en31, e29⟩ := cal_t e29
    refine e_callV (As := [.int x1]) (st := [.ref r21, .int x1, .ref r3]) (a := r23) (ci := 9) false dX3_bind_80 mw_X9_argAt (Or.inl ⟨rfl, ml_X3_94⟩) im_X9_argAt se_X9_argAt (by decide) ga25 gs26 rfl (Nat.le_of_ble_eq_true rfl) en31 (s_X9_argAt e29) ?_
    obtain ⟨v32, M33, e34, h⟩ := bnd2_t h
    obtain ⟨n35, en36, e34⟩ := cal_t e34
    refine e_callS (As := [.ref r21, .int v27]) (st := [.int x1, .ref r3]) true dX3_bind_83 mw_X10_at (Or.inr ⟨rfl, mn_X3_97⟩) sm_X10_at rfl (Nat.le_of_ble_eq_true rfl) en36 (s_X10_at e34) ?_
    refine a_goto 90 dX3_bind_86 (by decide) ?_
    obtain ⟨⟨ga37, gn38, gs39, gi40⟩, h⟩ := gd_t h
    refine a_iastore dX3_bind_90 ga37 gs39 gi40 ?_
    exact a_vret dX3_bind_91 rfl (hR _ _ h)
set_option maxHeartbeats 4000000 in
set_option maxRecDepth 100000 in
noncomputable def st_X3_bind (n : Nat) (s : Sg) : Option (Sg ⊕ (Unit × Mem)) := if s.1 = 0 then vR s.2.1 none (fun a0 t => vI t none (fun x1 t => vE t none (T_X3_bind_0 (fun c l M => some (.inl (c, l, M))) (fun v M => some (.inr (v, M))) none n a0 x1 s.2.2))) else if s.1 = 54 then vR s.2.1 none (fun a0 t => vI t none (fun x1 t => vE t none (T_X3_bind_54 (fun c l M => some (.inl (c, l, M))) (fun v M => some (.inr (v, M))) none n a0 x1 s.2.2))) else none
noncomputable abbrev g_X3_bind_0 (n : Nat) (a0 : Nat) (x1 : Int32) (M : Mem) : Option (Unit × Mem) := lp (st_X3_bind n) (0, [.ref a0, .int x1], M)
set_option maxHeartbeats 4000000 in
set_option maxRecDepth 100000 in
theorem ge_X3_bind_0 (n : Nat) (a0 : Nat) (x1 : Int32) (M : Mem) : g_X3_bind_0 n a0 x1 M = T_X3_bind_0 (fun c l M => lp (st_X3_bind n) (c, l, M)) (fun v M => some (v, M)) none n a0 x1 M := (lp_eq _ _).trans (n_X3_bind_0 (lpK (st_X3_bind n)) (fun c l M => some (.inl (c, l, M))) (fun v M => some (.inr (v, M))) none n a0 x1 M)
noncomputable abbrev g_X3_bind_54 (n : Nat) (a0 : Nat) (x1 : Int32) (M : Mem) : Option (Unit × Mem) := lp (st_X3_bind n) (54, [.ref a0, .int x1], M)
set_option maxHeartbeats 4000000 in
set_option maxRecDepth 100000 in
theorem ge_X3_bind_54 (n : Nat) (a0 : Nat) (x1 : Int32) (M : Mem) : g_X3_bind_54 n a0 x1 M = T_X3_bind_54 (fun c l M => lp (st_X3_bind n) (c, l, M)) (fun v M => some (v, M)) none n a0 x1 M := (lp_eq _ _).trans (n_X3_bind_54 (lpK (st_X3_bind n)) (fun c l M => some (.inl (c, l, M))) (fun v M => some (.inr (v, M))) none n a0 x1 M)
noncomputable def b_X3_bind (n : Nat) (a0 : Nat) (x1 : Int32) (M : Mem) : Option (Unit × Mem) := g_X3_bind_0 n a0 x1 M
set_option maxHeartbeats 4000000 in
set_option maxRecDepth 100000 in
theorem sb_X3_bind {X : Nat × (Nat → Int32)} {al : Bool} {n : Nat} {a0 : Nat} {x1 : Int32} {M : Mem} {v : Unit} {M1 : Mem} (h : b_X3_bind n a0 x1 M = some (v, M1)) : AE yX3_bind cX3_bind 3 none al n X [.ref a0, .int x1] M none M1 := by
  refine AM.of false (by decide +kernel) (by intro h; cases h) (Nat.le_of_ble_eq_true rfl) ?_
  refine lp_snd (P := fun s r => PW_X3_bind X al n (fun v M2 => v = none ∧ M2 = r.2) s.1 s.2.1 s.2.2) ?_ h
  clear h
  rintro ⟨c, l, M⟩ r h
  unfold st_X3_bind at h
  rcases ite_p h with ⟨e, h⟩ | ⟨e, h⟩
  · replace e : c = 0 := e
    subst e
    obtain ⟨a0, tt0, e, h⟩ := vR_p id h
    replace e : l = _ := e
    subst e
    obtain ⟨x1, tt1, e, h⟩ := vI_p id h
    replace e : tt0 = _ := e
    subst e
    obtain ⟨e, h⟩ := vE_p id h
    replace e : tt1 = [] := e
    subst e
    exact w_X3_bind_0 (J := fun c l M => PW_X3_bind X al n (fun v M2 => v = none ∧ M2 = r.2) c l M) (R := fun v M => (v, M) = r) (fun _ _ _ h => h) (fun v M h => by cases h; exact ⟨rfl, rfl⟩) ((n_X3_bind_0 (lpP (fun (s : Sg) (r : Unit × Mem) => PW_X3_bind X al n (fun v M2 => v = none ∧ M2 = r.2) s.1 s.2.1 s.2.2) r) (fun c l M => some (.inl (c, l, M))) (fun v M => some (.inr (v, M))) none n a0 x1 M).mp h)
  rcases ite_p h with ⟨e, h⟩ | ⟨e, h⟩
  · replace e : c = 54 := e
    subst e
    obtain ⟨a0, tt0, e, h⟩ := vR_p id h
    replace e : l = _ := e
    subst e
    obtain ⟨x1, tt1, e, h⟩ := vI_p id h
    replace e : tt0 = _ := e
    subst e
    obtain ⟨e, h⟩ := vE_p id h
    replace e : tt1 = [] := e
    subst e
    exact w_X3_bind_54 (J := fun c l M => PW_X3_bind X al n (fun v M2 => v = none ∧ M2 = r.2) c l M) (R := fun v M => (v, M) = r) (fun _ _ _ h => h) (fun v M h => by cases h; exact ⟨rfl, rfl⟩) ((n_X3_bind_54 (lpP (fun (s : Sg) (r : Unit × Mem) => PW_X3_bind X al n (fun v M2 => v = none ∧ M2 = r.2) s.1 s.2.1 s.2.2) r) (fun c l M => some (.inl (c, l, M))) (fun v M => some (.inr (v, M))) none n a0 x1 M).mp h)
  · exact h.elim

noncomputable abbrev f_X3_bind := b_X3_bind
theorem s_X3_bind {X : Nat × (Nat → Int32)} {al : Bool} {n : Nat} {a0 : Nat} {x1 : Int32} {M : Mem} {v : Unit} {M1 : Mem} (h : f_X3_bind n a0 x1 M = some (v, M1)) : AE yX3_bind cX3_bind 3 none al n X [.ref a0, .int x1] M none M1 := sb_X3_bind h
def ix_X3_walkOut (c : Nat) : List Nat := if c = 0 then [0, 1] else if c = 9 then [0, 2, 3] else []
def PW_X3_walkOut (X : Nat × (Nat → Int32)) (al : Bool) (n : Nat) (Q : Option Value → Mem → Prop) (c : Nat) (l : List Value) (M : Mem) : Prop := AW X (RX3, cX3_walkOut, 5, none, false, al, n) 0 0 c (List.zip (ix_X3_walkOut c) l) (l.drop (ix_X3_walkOut c).length) M Q
set_option maxHeartbeats 4000000 in
set_option maxRecDepth 100000 in
noncomputable def T_X3_walkOut_0.{u} {α : Sort u} (J : Nat → List Value → Mem → α) (R : Unit → Mem → α) (N : α) (n : Nat) (a0 : Nat) (x1 : Int32) (M : Mem) : α := gd (fO M a0 3) N (bnd2 (cal n (fun n => f_X3_addToWalk n a0 x1 M)) N (fun _ M3 => J 9 [.ref a0, .int x1, .int 0] M3))
set_option maxHeartbeats 4000000 in
set_option maxRecDepth 100000 in
theorem n_X3_walkOut_0.{u, v} {α : Sort u} {β : Sort v} (h : α → β) (J : Nat → List Value → Mem → α) (R : Unit → Mem → α) (N : α) (n : Nat) (a0 : Nat) (x1 : Int32) (M : Mem) : h (T_X3_walkOut_0 J R N n a0 x1 M) = T_X3_walkOut_0 (fun c l M => h (J c l M)) (fun v M => h (R v M)) (h N) n a0 x1 M := by
  simp only [T_X3_walkOut_0, nat_ite h, nat_gd h, nat_bnd h, nat_bnd2 h]
set_option maxHeartbeats 4000000 in
set_option maxRecDepth 100000 in
theorem w_X3_walkOut_0 {X : Nat × (Nat → Int32)} {al : Bool} {n : Nat} {Q : Option Value → Mem → Prop} {J : Nat → List Value → Mem → Prop} (hJ : ∀ c l M, J c l M → PW_X3_walkOut X al n Q c l M) {R : Unit → Mem → Prop} (hR : ∀ v M, R v M → Q none M) {a0 : Nat} {x1 : Int32} {M : Mem} (h : T_X3_walkOut_0 J R False n a0 x1 M) : AW X (RX3, cX3_walkOut, 5, none, false, al, n) 0 0 0 [(0, .ref a0), (1, .int x1)] [] M Q := by
  unfold T_X3_walkOut_0 at h
  refine a_iload_n dX3_walkOut_0 rfl rfl ?_
  refine a_istore_n dX3_walkOut_1 rfl (Nat.le_of_ble_eq_true rfl) (lv2 := [(2, .int x1), (0, .ref a0), (1, .int x1)]) rfl ?_
  refine a_aload_n dX3_walkOut_2 rfl rfl ?_
  refine a_iload_n dX3_walkOut_3 rfl rfl ?_
  obtain ⟨⟨ga1, gs2⟩, h⟩ := gd_t h
  obtain ⟨_, M3, e4, h⟩ := bnd2_t h
  obtain ⟨n5, en6, e4⟩ := cal_t e4
  refine e_callV (As := [.int x1]) (st := []) (a := a0) (ci := 3) false dX3_walkOut_4 mw_X3_addToWalk (Or.inl ⟨rfl, ml_X3_91⟩) im_X3_addToWalk se_X3_addToWalk (by decide) ga1 gs2 rfl (Nat.le_of_ble_eq_true rfl) en6 (s_X3_addToWalk e4) ?_
  refine a_iconst (v := 0) dX3_walkOut_7 (by decide) ?_
  refine a_istore_n dX3_walkOut_8 rfl (Nat.le_of_ble_eq_true rfl) (lv2 := [(3, .int 0), (2, .int x1), (0, .ref a0), (1, .int x1)]) rfl ?_
  exact a_lv (lv2 := [(0, .ref a0), (2, .int x1), (3, .int 0)]) (fa_cons rfl (fa_cons rfl (fa_cons rfl fa_nil))) (hJ _ _ _ h)
set_option maxHeartbeats 4000000 in
set_option maxRecDepth 100000 in
noncomputable def T_X3_walkOut_9.{u} {α : Sort u} (J : Nat → List Value → Mem → α) (R : Unit → Mem → α) (N : α) (n : Nat) (a0 : Nat) (x2 : Int32) (x3 : Int32) (M : Mem) : α := if 200 ≤ x3 then R () M else gd (fO M a0 3) N (bnd2 (cal n (fun n => f_X3_parentOf n a0 x2 M)) N (fun v4 M5 => if v4 = (-1) then R () M5 else gd (fO M5 a0 3) N (bnd2 (cal n (fun n => f_X3_endOf n a0 v4 M5)) N (fun v12 M13 => gd (fO M13 a0 3) N (bnd2 (cal n (fun n => f_X3_endOf n a0 x2 M13)) N (fun v19 M20 => if v12 = v19 then gd (fO M20 a0 3) N (bnd2 (cal n (fun n => f_X3_addToWalk n a0 v4 M20)) N (fun _ M27 => J 9 [.ref a0, .int v4, .int (x3 + 1)] M27)) else R () M20))))))
set_option maxHeartbeats 4000000 in
set_option maxRecDepth 100000 in
theorem n_X3_walkOut_9.{u, v} {α : Sort u} {β : Sort v} (h : α → β) (J : Nat → List Value → Mem → α) (R : Unit → Mem → α) (N : α) (n : Nat) (a0 : Nat) (x2 : Int32) (x3 : Int32) (M : Mem) : h (T_X3_walkOut_9 J R N n a0 x2 x3 M) = T_X3_walkOut_9 (fun c l M => h (J c l M)) (fun v M => h (R v M)) (h N) n a0 x2 x3 M := by
  simp only [T_X3_walkOut_9, nat_ite h, nat_gd h, nat_bnd h, nat_bnd2 h]
set_option maxHeartbeats 4000000 in
set_option maxRecDepth 100000 in
theorem w_X3_walkOut_9 {X : Nat × (Nat → Int32)} {al : Bool} {n : Nat} {Q : Option Value → Mem → Prop} {J : Nat → List Value → Mem → Prop} (hJ : ∀ c l M, J c l M → PW_X3_walkOut X al n Q c l M) {R : Unit → Mem → Prop} (hR : ∀ v M, R v M → Q none M) {a0 : Nat} {x2 : Int32} {x3 : Int32} {M : Mem} (h : T_X3_walkOut_9 J R False n a0 x2 x3 M) : AW X (RX3, cX3_walkOut, 5, none, false, al, n) 0 0 9 [(0, .ref a0), (2, .int x2), (3, .int x3)] [] M Q := by
  unfold T_X3_walkOut_9 at h
  refine a_iload_n dX3_walkOut_9 rfl rfl ?_
  refine a_sipush (v := 200) dX3_walkOut_10 (by decide) ?_
  refine a_icmp_ge 58 dX3_walkOut_13 (by decide) (fun c1 => ?_) (fun c1 => ?_)
  · replace h := ite_t c1 h
    exact a_vret dX3_walkOut_58 rfl (hR _ _ h)
  · replace h := ite_f c1 h
    refine a_aload_n dX3_walkOut_16 rfl rfl ?_
    refine a_iload_n dX3_walkOut_17 rfl rfl ?_
    obtain ⟨⟨ga2, gs3⟩, h⟩ := gd_t h
    obtain ⟨v4, M5, e6, h⟩ := bnd2_t h
    obtain ⟨n7, en8, e6⟩ := cal_t e6
    refine e_callV (As := [.int x2]) (st := []) (a := a0) (ci := 3) false dX3_walkOut_18 mw_X3_parentOf (Or.inl ⟨rfl, ml_X3_101⟩) im_X3_parentOf se_X3_parentOf (by decide) ga2 gs3 rfl (Nat.le_of_ble_eq_true rfl) en8 (s_X3_parentOf e6) ?_
    refine a_istore dX3_walkOut_21 (Nat.le_of_ble_eq_true rfl) (lv2 := [(4, .int v4), (0, .ref a0), (2, .int x2), (3, .int x3)]) rfl ?_
    refine a_iload dX3_walkOut_23 rfl ?_
    refine a_iconst (v := -1) dX3_walkOut_25 (by decide) ?_
    refine a_icmp_eq 43 dX3_walkOut_26 (by decide) (fun c9 => ?_) (fun c9 => ?_)
    · replace h := ite_t c9 h
      exact a_vret dX3_walkOut_43 rfl (hR _ _ h)
    · replace h := ite_f c9 h
      refine a_aload_n dX3_walkOut_29 rfl rfl ?_
      refine a_iload dX3_walkOut_30 rfl ?_
      obtain ⟨⟨ga10, gs11⟩, h⟩ := gd_t h
      obtain ⟨v12, M13, e14, h⟩ := bnd2_t h
      obtain ⟨n15, en16, e14⟩ := cal_t e14
      refine e_callV (As := [.int v4]) (st := []) (a := a0) (ci := 3) false dX3_walkOut_32 mw_X3_endOf (Or.inl ⟨rfl, ml_X3_65⟩) im_X3_endOf se_X3_endOf (by decide) ga10 gs11 rfl (Nat.le_of_ble_eq_true rfl) en16 (s_X3_endOf e14) ?_
      refine a_aload_n dX3_walkOut_35 rfl rfl ?_
      refine a_iload_n dX3_walkOut_36 rfl rfl ?_
      obtain ⟨⟨ga17, gs18⟩, h⟩ := gd_t h
      obtain ⟨v19, M20, e21, h⟩ := bnd2_t h
      obtain ⟨n22, en23, e21⟩ := cal_t e21
      refine e_callV (As := [.int x2]) (st := [.int v12]) (a := a0) (ci := 3) false dX3_walkOut_37 mw_X3_endOf (Or.inl ⟨rfl, ml_X3_65⟩) im_X3_endOf se_X3_endOf (by decide) ga17 gs18 rfl (Nat.le_of_ble_eq_true rfl) en23 (s_X3_endOf e21) ?_
      refine a_icmp_eq 44 dX3_walkOut_40 (by decide) (fun c24 => ?_) (fun c24 => ?_)
      · replace h := ite_t c24 h
        refine a_iload dX3_walkOut_44 rfl ?_
        refine a_istore_n dX3_walkOut_46 rfl (Nat.le_of_ble_eq_true rfl) (lv2 := [(2, .int v4), (4, .int v4), (0, .ref a0), (3, .int x3)]) rfl ?_
        refine a_aload_n dX3_walkOut_47 rfl rfl ?_
        refine a_iload_n dX3_walkOut_48 rfl rfl ?_
        obtain ⟨⟨ga25, gs26⟩, h⟩ := gd_t h
        obtain ⟨_, M27, e28, h⟩ := bnd2_t h
        obtain ⟨n29, en30, e28⟩ := cal_t e28
        refine e_callV (As := [.int v4]) (st := []) (a := a0) (ci := 3) false dX3_walkOut_49 mw_X3_addToWalk (Or.inl ⟨rfl, ml_X3_91⟩) im_X3_addToWalk se_X3_addToWalk (by decide) ga25 gs26 rfl (Nat.le_of_ble_eq_true rfl) en30 (s_X3_addToWalk e28) ?_
        refine a_iinc (v := (x3 + 1)) dX3_walkOut_52 rfl (by first | rfl | decide) (Nat.le_of_ble_eq_true rfl) (lv2 := [(3, .int (x3 + 1)), (2, .int v4), (4, .int v4), (0, .ref a0)]) rfl ?_
        refine a_goto 9 dX3_walkOut_55 (by decide) ?_
        exact a_lv (lv2 := [(0, .ref a0), (2, .int v4), (3, .int (x3 + 1))]) (fa_cons rfl (fa_cons rfl (fa_cons rfl fa_nil))) (hJ _ _ _ h)
      · replace h := ite_f c24 h
        exact a_vret dX3_walkOut_43 rfl (hR _ _ h)
set_option maxHeartbeats 4000000 in
set_option maxRecDepth 100000 in
noncomputable def st_X3_walkOut (n : Nat) (s : Sg) : Option (Sg ⊕ (Unit × Mem)) := if s.1 = 0 then vR s.2.1 none (fun a0 t => vI t none (fun x1 t => vE t none (T_X3_walkOut_0 (fun c l M => some (.inl (c, l, M))) (fun v M => some (.inr (v, M))) none n a0 x1 s.2.2))) else if s.1 = 9 then vR s.2.1 none (fun a0 t => vI t none (fun x2 t => vI t none (fun x3 t => vE t none (T_X3_walkOut_9 (fun c l M => some (.inl (c, l, M))) (fun v M => some (.inr (v, M))) none n a0 x2 x3 s.2.2)))) else none
noncomputable abbrev g_X3_walkOut_0 (n : Nat) (a0 : Nat) (x1 : Int32) (M : Mem) : Option (Unit × Mem) := lp (st_X3_walkOut n) (0, [.ref a0, .int x1], M)
set_option maxHeartbeats 4000000 in
set_option maxRecDepth 100000 in
theorem ge_X3_walkOut_0 (n : Nat) (a0 : Nat) (x1 : Int32) (M : Mem) : g_X3_walkOut_0 n a0 x1 M = T_X3_walkOut_0 (fun c l M => lp (st_X3_walkOut n) (c, l, M)) (fun v M => some (v, M)) none n a0 x1 M := (lp_eq _ _).trans (n_X3_walkOut_0 (lpK (st_X3_walkOut n)) (fun c l M => some (.inl (c, l, M))) (fun v M => some (.inr (v, M))) none n a0 x1 M)
noncomputable abbrev g_X3_walkOut_9 (n : Nat) (a0 : Nat) (x2 : Int32) (x3 : Int32) (M : Mem) : Option (Unit × Mem) := lp (st_X3_walkOut n) (9, [.ref a0, .int x2, .int x3], M)
set_option maxHeartbeats 4000000 in
set_option maxRecDepth 100000 in
theorem ge_X3_walkOut_9 (n : Nat) (a0 : Nat) (x2 : Int32) (x3 : Int32) (M : Mem) : g_X3_walkOut_9 n a0 x2 x3 M = T_X3_walkOut_9 (fun c l M => lp (st_X3_walkOut n) (c, l, M)) (fun v M => some (v, M)) none n a0 x2 x3 M := (lp_eq _ _).trans (n_X3_walkOut_9 (lpK (st_X3_walkOut n)) (fun c l M => some (.inl (c, l, M))) (fun v M => some (.inr (v, M))) none n a0 x2 x3 M)
noncomputable def b_X3_walkOut (n : Nat) (a0 : Nat) (x1 : Int32) (M : Mem) : Option (Unit × Mem) := g_X3_walkOut_0 n a0 x1 M
set_option maxHeartbeats 4000000 in
set_option maxRecDepth 100000 in
theorem sb_X3_walkOut {X : Nat × (Nat → Int32)} {al : Bool} {n : Nat} {a0 : Nat} {x1 : Int32} {M : Mem} {v : Unit} {M1 : Mem} (h : b_X3_walkOut n a0 x1 M = some (v, M1)) : AE yX3_walkOut cX3_walkOut 5 none al n X [.ref a0, .int x1] M none M1 := by
  refine AM.of false (by decide +kernel) (by intro h; cases h) (Nat.le_of_ble_eq_true rfl) ?_
  refine lp_snd (P := fun s r => PW_X3_walkOut X al n (fun v M2 => v = none ∧ M2 = r.2) s.1 s.2.1 s.2.2) ?_ h
  clear h
  rintro ⟨c, l, M⟩ r h
  unfold st_X3_walkOut at h
  rcases ite_p h with ⟨e, h⟩ | ⟨e, h⟩
  · replace e : c = 0 := e
    subst e
    obtain ⟨a0, tt0, e, h⟩ := vR_p id h
    replace e : l = _ := e
    subst e
    obtain ⟨x1, tt1, e, h⟩ := vI_p id h
    replace e : tt0 = _ := e
    subst e
    obtain ⟨e, h⟩ := vE_p id h
    replace e : tt1 = [] := e
    subst e
    exact w_X3_walkOut_0 (J := fun c l M => PW_X3_walkOut X al n (fun v M2 => v = none ∧ M2 = r.2) c l M) (R := fun v M => (v, M) = r) (fun _ _ _ h => h) (fun v M h => by cases h; exact ⟨rfl, rfl⟩) ((n_X3_walkOut_0 (lpP (fun (s : Sg) (r : Unit × Mem) => PW_X3_walkOut X al n (fun v M2 => v = none ∧ M2 = r.2) s.1 s.2.1 s.2.2) r) (fun c l M => some (.inl (c, l, M))) (fun v M => some (.inr (v, M))) none n a0 x1 M).mp h)
  rcases ite_p h with ⟨e, h⟩ | ⟨e, h⟩
  · replace e : c = 9 := e
    subst e
    obtain ⟨a0, tt0, e, h⟩ := vR_p id h
    replace e : l = _ := e
    subst e
    obtain ⟨x2, tt1, e, h⟩ := vI_p id h
    replace e : tt0 = _ := e
    subst e
    obtain ⟨x3, tt2, e, h⟩ := vI_p id h
    replace e : tt1 = _ := e
    subst e
    obtain ⟨e, h⟩ := vE_p id h
    replace e : tt2 = [] := e
    subst e
    exact w_X3_walkOut_9 (J := fun c l M => PW_X3_walkOut X al n (fun v M2 => v = none ∧ M2 = r.2) c l M) (R := fun v M => (v, M) = r) (fun _ _ _ h => h) (fun v M h => by cases h; exact ⟨rfl, rfl⟩) ((n_X3_walkOut_9 (lpP (fun (s : Sg) (r : Unit × Mem) => PW_X3_walkOut X al n (fun v M2 => v = none ∧ M2 = r.2) s.1 s.2.1 s.2.2) r) (fun c l M => some (.inl (c, l, M))) (fun v M => some (.inr (v, M))) none n a0 x2 x3 M).mp h)
  · exact h.elim

noncomputable abbrev f_X3_walkOut := b_X3_walkOut
theorem s_X3_walkOut {X : Nat × (Nat → Int32)} {al : Bool} {n : Nat} {a0 : Nat} {x1 : Int32} {M : Mem} {v : Unit} {M1 : Mem} (h : f_X3_walkOut n a0 x1 M = some (v, M1)) : AE yX3_walkOut cX3_walkOut 5 none al n X [.ref a0, .int x1] M none M1 := sb_X3_walkOut h
