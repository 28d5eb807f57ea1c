/-! METHODS AS FUNCTIONS, written by wip/gen/shallow.py -/
set_option maxHeartbeats 4000000 in
set_option maxRecDepth 100000 in
noncomputable def T_X5_kindAt_0.{u} {α : Sort u} (R : Int32 → Mem → α) (N : α) (n : Nat) (a0 : Nat) (x1 : Int32) (M : Mem) : α := if x1 < 0 then R (-1) M else gd (fO M a0 5) N (if (M.2.2.1 a0 6) ≤ x1 then R (-1) M else if 420 ≤ x1 then R (-1) M else bnd (M.2.2.2.2 a0 2) N (fun r6 => gd (fA M r6 1 x1) N (R (M.2.2.1 r6 (x1.toNatClampNeg)) M)))
set_option maxHeartbeats 4000000 in
set_option maxRecDepth 100000 in
theorem n_X5_kindAt_0.{u, v} {α : Sort u} {β : Sort v} (h : α → β) (R : Int32 → Mem → α) (N : α) (n : Nat) (a0 : Nat) (x1 : Int32) (M : Mem) : h (T_X5_kindAt_0 R N n a0 x1 M) = T_X5_kindAt_0 (fun v M => h (R v M)) (h N) n a0 x1 M := by
  simp only [T_X5_kindAt_0, nat_ite h, nat_gd h, nat_bnd h, nat_bnd2 h]
set_option maxHeartbeats 4000000 in
set_option maxRecDepth 100000 in
theorem w_X5_kindAt_0 {X : Nat × (Nat → Int32)} {al : Bool} {n : Nat} {Q : Option Value → Mem → Prop} {R : Int32 → Mem → Prop} (hR : ∀ v M, R v M → Q (some (.int v)) M) {a0 : Nat} {x1 : Int32} {M : Mem} (h : T_X5_kindAt_0 R False n a0 x1 M) : AW X (RX5, cX5_kindAt, 2, (some .int), false, al, n) 0 0 0 [(0, .ref a0), (1, .int x1)] [] M Q := by
  unfold T_X5_kindAt_0 at h
  refine a_iload_n dX5_kindAt_0 rfl rfl ?_
  refine a_if_lt 28 dX5_kindAt_1 (by decide) (fun c1 => ?_) (fun c1 => ?_)
  · replace h := ite_t c1 h
    refine a_iconst (v := -1) dX5_kindAt_28 (by decide) ?_
    exact a_iret dX5_kindAt_29 rfl (hR _ _ h)
  · replace h := ite_f c1 h
    refine a_iload_n dX5_kindAt_4 rfl rfl ?_
    refine a_aload_n dX5_kindAt_5 rfl rfl ?_
    obtain ⟨⟨ga2, gs3⟩, h⟩ := gd_t h
    refine a_get (v := .int (M.2.2.1 a0 6)) dX5_kindAt_6 fl_5_51 ga2 gs3 rfl ?_
    refine a_icmp_ge 28 dX5_kindAt_9 (by decide) (fun c4 => ?_) (fun c4 => ?_)
    · replace h := ite_t c4 h
      refine a_iconst (v := -1) dX5_kindAt_28 (by decide) ?_
      exact a_iret dX5_kindAt_29 rfl (hR _ _ h)
    · replace h := ite_f c4 h
      refine a_iload_n dX5_kindAt_12 rfl rfl ?_
      refine a_sipush (v := 420) dX5_kindAt_13 (by decide) ?_
      refine a_icmp_ge 28 dX5_kindAt_16 (by decide) (fun c5 => ?_) (fun c5 => ?_)
      · replace h := ite_t c5 h
        refine a_iconst (v := -1) dX5_kindAt_28 (by decide) ?_
        exact a_iret dX5_kindAt_29 rfl (hR _ _ h)
      · replace h := ite_f c5 h
        refine a_aload_n dX5_kindAt_19 rfl rfl ?_
        obtain ⟨r6, e7, h⟩ := bnd_t h
        refine a_get (v := .ref r6) dX5_kindAt_20 fl_5_17 ga2 gs3 (gvR e7 rfl) ?_
        refine a_iload_n dX5_kindAt_23 rfl rfl ?_
        obtain ⟨⟨ga8, gn9, gs10, gi11⟩, h⟩ := gd_t h
        refine a_iaload dX5_kindAt_24 ga8 gs10 gi11 ?_
        refine a_goto 29 dX5_kindAt_25 (by decide) ?_
        exact a_iret dX5_kindAt_29 rfl (hR _ _ h)
noncomputable def b_X5_kindAt (n : Nat) (a0 : Nat) (x1 : Int32) (M : Mem) : Option (Int32 × Mem) := T_X5_kindAt_0 (fun v M => some (v, M)) none n a0 x1 M
set_option maxHeartbeats 4000000 in
set_option maxRecDepth 100000 in
theorem sb_X5_kindAt {X : Nat × (Nat → Int32)} {al : Bool} {n : Nat} {a0 : Nat} {x1 : Int32} {M : Mem} {v : Int32} {M1 : Mem} (h : b_X5_kindAt n a0 x1 M = some (v, M1)) : AE yX5_kindAt cX5_kindAt 2 (some .int) al n X [.ref a0, .int x1] M (some (.int v)) M1 := by
  refine AM.of false (by decide +kernel) (by intro h; cases h) (Nat.le_of_ble_eq_true rfl) ?_
  have h2 : T_X5_kindAt_0 (fun v2 M2 => some (v2, M2) = some (v, M1)) (none = some (v, M1)) n a0 x1 M := (n_X5_kindAt_0 (fun o => o = some (v, M1)) (fun v M => some (v, M)) none n a0 x1 M).mp h
  have h3 : ((none : Option (Int32 × Mem)) = some (v, M1)) = False := eq_false (by intro q; cases q)
  rw [h3] at h2
  exact w_X5_kindAt_0 (fun v2 M2 h => by cases h; exact ⟨rfl, rfl⟩) h2

noncomputable abbrev f_X5_kindAt := b_X5_kindAt
theorem s_X5_kindAt {X : Nat × (Nat → Int32)} {al : Bool} {n : Nat} {a0 : Nat} {x1 : Int32} {M : Mem} {v : Int32} {M1 : Mem} (h : f_X5_kindAt n a0 x1 M = some (v, M1)) : AE yX5_kindAt cX5_kindAt 2 (some .int) al n X [.ref a0, .int x1] M (some (.int v)) M1 := sb_X5_kindAt h
set_option maxHeartbeats 4000000 in
set_option maxRecDepth 100000 in
noncomputable def T_X5_leftAt_0.{u} {α : Sort u} (R : Int32 → Mem → α) (N : α) (n : Nat) (a0 : Nat) (x1 : Int32) (M : Mem) : α := if x1 < 0 then R 0 M else gd (fO M a0 5) N (if (M.2.2.1 a0 6) ≤ x1 then R 0 M else if 420 ≤ x1 then R 0 M else bnd (M.2.2.2.2 a0 3) N (fun r6 => gd (fA M r6 1 x1) N (R (M.2.2.1 r6 (x1.toNatClampNeg)) M)))
set_option maxHeartbeats 4000000 in
set_option maxRecDepth 100000 in
theorem n_X5_leftAt_0.{u, v} {α : Sort u} {β : Sort v} (h : α → β) (R : Int32 → Mem → α) (N : α) (n : Nat) (a0 : Nat) (x1 : Int32) (M : Mem) : h (T_X5_leftAt_0 R N n a0 x1 M) = T_X5_leftAt_0 (fun v M => h (R v M)) (h N) n a0 x1 M := by
  simp only [T_X5_leftAt_0, nat_ite h, nat_gd h, nat_bnd h, nat_bnd2 h]
set_option maxHeartbeats 4000000 in
set_option maxRecDepth 100000 in
theorem w_X5_leftAt_0 {X : Nat × (Nat → Int32)} {al : Bool} {n : Nat} {Q : Option Value → Mem → Prop} {R : Int32 → Mem → Prop} (hR : ∀ v M, R v M → Q (some (.int v)) M) {a0 : Nat} {x1 : Int32} {M : Mem} (h : T_X5_leftAt_0 R False n a0 x1 M) : AW X (RX5, cX5_leftAt, 2, (some .int), false, al, n) 0 0 0 [(0, .ref a0), (1, .int x1)] [] M Q := by
  unfold T_X5_leftAt_0 at h
  refine a_iload_n dX5_leftAt_0 rfl rfl ?_
  refine a_if_lt 28 dX5_leftAt_1 (by decide) (fun c1 => ?_) (fun c1 => ?_)
  · replace h := ite_t c1 h
    refine a_iconst (v := 0) dX5_leftAt_28 (by decide) ?_
    exact a_iret dX5_leftAt_29 rfl (hR _ _ h)
  · replace h := ite_f c1 h
    refine a_iload_n dX5_leftAt_4 rfl rfl ?_
    refine a_aload_n dX5_leftAt_5 rfl rfl ?_
    obtain ⟨⟨ga2, gs3⟩, h⟩ := gd_t h
    refine a_get (v := .int (M.2.2.1 a0 6)) dX5_leftAt_6 fl_5_51 ga2 gs3 rfl ?_
    refine a_icmp_ge 28 dX5_leftAt_9 (by decide) (fun c4 => ?_) (fun c4 => ?_)
    · replace h := ite_t c4 h
      refine a_iconst (v := 0) dX5_leftAt_28 (by decide) ?_
      exact a_iret dX5_leftAt_29 rfl (hR _ _ h)
    · replace h := ite_f c4 h
      refine a_iload_n dX5_leftAt_12 rfl rfl ?_
      refine a_sipush (v := 420) dX5_leftAt_13 (by decide) ?_
      refine a_icmp_ge 28 dX5_leftAt_16 (by decide) (fun c5 => ?_) (fun c5 => ?_)
      · replace h := ite_t c5 h
        refine a_iconst (v := 0) dX5_leftAt_28 (by decide) ?_
        exact a_iret dX5_leftAt_29 rfl (hR _ _ h)
      · replace h := ite_f c5 h
        refine a_aload_n dX5_leftAt_19 rfl rfl ?_
        obtain ⟨r6, e7, h⟩ := bnd_t h
        refine a_get (v := .ref r6) dX5_leftAt_20 fl_5_20 ga2 gs3 (gvR e7 rfl) ?_
        refine a_iload_n dX5_leftAt_23 rfl rfl ?_
        obtain ⟨⟨ga8, gn9, gs10, gi11⟩, h⟩ := gd_t h
        refine a_iaload dX5_leftAt_24 ga8 gs10 gi11 ?_
        refine a_goto 29 dX5_leftAt_25 (by decide) ?_
        exact a_iret dX5_leftAt_29 rfl (hR _ _ h)
noncomputable def b_X5_leftAt (n : Nat) (a0 : Nat) (x1 : Int32) (M : Mem) : Option (Int32 × Mem) := T_X5_leftAt_0 (fun v M => some (v, M)) none n a0 x1 M
set_option maxHeartbeats 4000000 in
set_option maxRecDepth 100000 in
theorem sb_X5_leftAt {X : Nat × (Nat → Int32)} {al : Bool} {n : Nat} {a0 : Nat} {x1 : Int32} {M : Mem} {v : Int32} {M1 : Mem} (h : b_X5_leftAt n a0 x1 M = some (v, M1)) : AE yX5_leftAt cX5_leftAt 2 (some .int) al n X [.ref a0, .int x1] M (some (.int v)) M1 := by
  refine AM.of false (by decide +kernel) (by intro h; cases h) (Nat.le_of_ble_eq_true rfl) ?_
  have h2 : T_X5_leftAt_0 (fun v2 M2 => some (v2, M2) = some (v, M1)) (none = some (v, M1)) n a0 x1 M := (n_X5_leftAt_0 (fun o => o = some (v, M1)) (fun v M => some (v, M)) none n a0 x1 M).mp h
  have h3 : ((none : Option (Int32 × Mem)) = some (v, M1)) = False := eq_false (by intro q; cases q)
  rw [h3] at h2
  exact w_X5_leftAt_0 (fun v2 M2 h => by cases h; exact ⟨rfl, rfl⟩) h2

noncomputable abbrev f_X5_leftAt := b_X5_leftAt
theorem s_X5_leftAt {X : Nat × (Nat → Int32)} {al : Bool} {n : Nat} {a0 : Nat} {x1 : Int32} {M : Mem} {v : Int32} {M1 : Mem} (h : f_X5_leftAt n a0 x1 M = some (v, M1)) : AE yX5_leftAt cX5_leftAt 2 (some .int) al n X [.ref a0, .int x1] M (some (.int v)) M1 := sb_X5_leftAt h
set_option maxHeartbeats 4000000 in
set_option maxRecDepth 100000 in
noncomputable def T_X0_bit_0.{u} {α : Sort u} (R : Int64 → Mem → α) (N : α) (n : Nat) (x0 : Int32) (M : Mem) : α := if x0 < 0 then R 0 M else if 40 ≤ x0 then R 0 M else R (1 <<< (Int32.toInt64 x0 &&& 63)) M
set_option maxHeartbeats 4000000 in
set_option maxRecDepth 100000 in
theorem n_X0_bit_0.{u, v} {α : Sort u} {β : Sort v} (h : α → β) (R : Int64 → Mem → α) (N : α) (n : Nat) (x0 : Int32) (M : Mem) : h (T_X0_bit_0 R N n x0 M) = T_X0_bit_0 (fun v M => h (R v M)) (h N) n x0 M := by
  simp only [T_X0_bit_0, nat_ite h, nat_gd h, nat_bnd h, nat_bnd2 h]
set_option maxHeartbeats 4000000 in
set_option maxRecDepth 100000 in
theorem w_X0_bit_0 {X : Nat × (Nat → Int32)} {al : Bool} {n : Nat} {Q : Option Value → Mem → Prop} {R : Int64 → Mem → Prop} (hR : ∀ v M, R v M → Q (some (.long v)) M) {x0 : Int32} {M : Mem} (h : T_X0_bit_0 R False n x0 M) : AW X (RX0, cX0_bit, 1, (some .long), false, al, n) 0 0 0 [(0, .int x0)] [] M Q := by
  unfold T_X0_bit_0 at h
  refine a_iload_n dX0_bit_0 rfl rfl ?_
  refine a_if_lt 16 dX0_bit_1 (by decide) (fun c1 => ?_) (fun c1 => ?_)
  · replace h := ite_t c1 h
    refine a_lconst (v := 0) dX0_bit_16 (by decide) ?_
    exact a_lret dX0_bit_17 rfl (hR _ _ h)
  · replace h := ite_f c1 h
    refine a_iload_n dX0_bit_4 rfl rfl ?_
    refine a_bipush (v := 40) dX0_bit_5 (by decide) ?_
    refine a_icmp_ge 16 dX0_bit_7 (by decide) (fun c2 => ?_) (fun c2 => ?_)
    · replace h := ite_t c2 h
      refine a_lconst (v := 0) dX0_bit_16 (by decide) ?_
      exact a_lret dX0_bit_17 rfl (hR _ _ h)
    · replace h := ite_f c2 h
      refine a_lconst (v := 1) dX0_bit_10 (by decide) ?_
      refine a_iload_n dX0_bit_11 rfl rfl ?_
      refine a_lshl dX0_bit_12 ?_
      refine a_goto 17 dX0_bit_13 (by decide) ?_
      exact a_lret dX0_bit_17 rfl (hR _ _ h)
noncomputable def b_X0_bit (n : Nat) (x0 : Int32) (M : Mem) : Option (Int64 × Mem) := T_X0_bit_0 (fun v M => some (v, M)) none n x0 M
set_option maxHeartbeats 4000000 in
set_option maxRecDepth 100000 in
theorem sb_X0_bit {X : Nat × (Nat → Int32)} {al : Bool} {n : Nat} {x0 : Int32} {M : Mem} {v : Int64} {M1 : Mem} (h : b_X0_bit n x0 M = some (v, M1)) : AE yX0_bit cX0_bit 1 (some .long) al n X [.int x0] M (some (.long v)) M1 := by
  refine AM.of false (by decide +kernel) (by intro h; cases h) (Nat.le_of_ble_eq_true rfl) ?_
  have h2 : T_X0_bit_0 (fun v2 M2 => some (v2, M2) = some (v, M1)) (none = some (v, M1)) n x0 M := (n_X0_bit_0 (fun o => o = some (v, M1)) (fun v M => some (v, M)) none n x0 M).mp h
  have h3 : ((none : Option (Int64 × Mem)) = some (v, M1)) = False := eq_false (by intro q; cases q)
  rw [h3] at h2
  exact w_X0_bit_0 (fun v2 M2 h => by cases h; exact ⟨rfl, rfl⟩) h2

noncomputable abbrev f_X0_bit := b_X0_bit
theorem s_X0_bit {X : Nat × (Nat → Int32)} {al : Bool} {n : Nat} {x0 : Int32} {M : Mem} {v : Int64} {M1 : Mem} (h : f_X0_bit n x0 M = some (v, M1)) : AE yX0_bit cX0_bit 1 (some .long) al n X [.int x0] M (some (.long v)) M1 := sb_X0_bit h
set_option maxHeartbeats 4000000 in
set_option maxRecDepth 100000 in
noncomputable def T_X5_rightAt_0.{u} {α : Sort u} (R : Int32 → Mem → α) (N : α) (n : Nat) (a0 : Nat) (x1 : Int32) (M : Mem) : α := if x1 < 0 then R 0 M else gd (fO M a0 5) N (if (M.2.2.1 a0 6) ≤ x1 then R 0 M else if 420 ≤ x1 then R 0 M else bnd (M.2.2.2.2 a0 4) N (fun r6 => gd (fA M r6 1 x1) N (R (M.2.2.1 r6 (x1.toNatClampNeg)) M)))
set_option maxHeartbeats 4000000 in
set_option maxRecDepth 100000 in
theorem n_X5_rightAt_0.{u, v} {α : Sort u} {β : Sort v} (h : α → β) (R : Int32 → Mem → α) (N : α) (n : Nat) (a0 : Nat) (x1 : Int32) (M : Mem) : h (T_X5_rightAt_0 R N n a0 x1 M) = T_X5_rightAt_0 (fun v M => h (R v M)) (h N) n a0 x1 M := by
  simp only [T_X5_rightAt_0, nat_ite h, nat_gd h, nat_bnd h, nat_bnd2 h]
set_option maxHeartbeats 4000000 in
set_option maxRecDepth 100000 in
theorem w_X5_rightAt_0 {X : Nat × (Nat → Int32)} {al : Bool} {n : Nat} {Q : Option Value → Mem → Prop} {R : Int32 → Mem → Prop} (hR : ∀ v M, R v M → Q (some (.int v)) M) {a0 : Nat} {x1 : Int32} {M : Mem} (h : T_X5_rightAt_0 R False n a0 x1 M) : AW X (RX5, cX5_rightAt, 2, (some .int), false, al, n) 0 0 0 [(0, .ref a0), (1, .int x1)] [] M Q := by
  unfold T_X5_rightAt_0 at h
  refine a_iload_n dX5_rightAt_0 rfl rfl ?_
  refine a_if_lt 28 dX5_rightAt_1 (by decide) (fun c1 => ?_) (fun c1 => ?_)
  · replace h := ite_t c1 h
    refine a_iconst (v := 0) dX5_rightAt_28 (by decide) ?_
    exact a_iret dX5_rightAt_29 rfl (hR _ _ h)
  · replace h := ite_f c1 h
    refine a_iload_n dX5_rightAt_4 rfl rfl ?_
    refine a_aload_n dX5_rightAt_5 rfl rfl ?_
    obtain ⟨⟨ga2, gs3⟩, h⟩ := gd_t h
    refine a_get (v := .int (M.2.2.1 a0 6)) dX5_rightAt_6 fl_5_51 ga2 gs3 rfl ?_
    refine a_icmp_ge 28 dX5_rightAt_9 (by decide) (fun c4 => ?_) (fun c4 => ?_)
    · replace h := ite_t c4 h
      refine a_iconst (v := 0) dX5_rightAt_28 (by decide) ?_
      exact a_iret dX5_rightAt_29 rfl (hR _ _ h)
    · replace h := ite_f c4 h
      refine a_iload_n dX5_rightAt_12 rfl rfl ?_
      refine a_sipush (v := 420) dX5_rightAt_13 (by decide) ?_
      refine a_icmp_ge 28 dX5_rightAt_16 (by decide) (fun c5 => ?_) (fun c5 => ?_)
      · replace h := ite_t c5 h
        refine a_iconst (v := 0) dX5_rightAt_28 (by decide) ?_
        exact a_iret dX5_rightAt_29 rfl (hR _ _ h)
      · replace h := ite_f c5 h
        refine a_aload_n dX5_rightAt_19 rfl rfl ?_
        obtain ⟨r6, e7, h⟩ := bnd_t h
        refine a_get (v := .ref r6) dX5_rightAt_20 fl_5_23 ga2 gs3 (gvR e7 rfl) ?_
        refine a_iload_n dX5_rightAt_23 rfl rfl ?_
        obtain ⟨⟨ga8, gn9, gs10, gi11⟩, h⟩ := gd_t h
        refine a_iaload dX5_rightAt_24 ga8 gs10 gi11 ?_
        refine a_goto 29 dX5_rightAt_25 (by decide) ?_
        exact a_iret dX5_rightAt_29 rfl (hR _ _ h)
noncomputable def b_X5_rightAt (n : Nat) (a0 : Nat) (x1 : Int32) (M : Mem) : Option (Int32 × Mem) := T_X5_rightAt_0 (fun v M => some (v, M)) none n a0 x1 M
set_option maxHeartbeats 4000000 in
set_option maxRecDepth 100000 in
theorem sb_X5_rightAt {X : Nat × (Nat → Int32)} {al : Bool} {n : Nat} {a0 : Nat} {x1 : Int32} {M : Mem} {v : Int32} {M1 : Mem} (h : b_X5_rightAt n a0 x1 M = some (v, M1)) : AE yX5_rightAt cX5_rightAt 2 (some .int) al n X [.ref a0, .int x1] M (some (.int v)) M1 := by
  refine AM.of false (by decide +kernel) (by intro h; cases h) (Nat.le_of_ble_eq_true rfl) ?_
  have h2 : T_X5_rightAt_0 (fun v2 M2 => some (v2, M2) = some (v, M1)) (none = some (v, M1)) n a0 x1 M := (n_X5_rightAt_0 (fun o => o = some (v, M1)) (fun v M => some (v, M)) none n a0 x1 M).mp h
  have h3 : ((none : Option (Int32 × Mem)) = some (v, M1)) = False := eq_false (by intro q; cases q)
  rw [h3] at h2
  exact w_X5_rightAt_0 (fun v2 M2 h => by cases h; exact ⟨rfl, rfl⟩) h2

noncomputable abbrev f_X5_rightAt := b_X5_rightAt
theorem s_X5_rightAt {X : Nat × (Nat → Int32)} {al : Bool} {n : Nat} {a0 : Nat} {x1 : Int32} {M : Mem} {v : Int32} {M1 : Mem} (h : f_X5_rightAt n a0 x1 M = some (v, M1)) : AE yX5_rightAt cX5_rightAt 2 (some .int) al n X [.ref a0, .int x1] M (some (.int v)) M1 := sb_X5_rightAt h
def ix_X0_takeParts (c : Nat) : List Nat := if c = 0 then [0] else if c = 23 then [0, 1] else if c = 76 then [0, 1] else if c = 108 then [0, 1] else []
def PW_X0_takeParts (X : Nat × (Nat → Int32)) (al : Bool) (n : Nat) (Q : Option Value → Mem → Prop) (c : Nat) (l : List Value) (M : Mem) : Prop := AW X (RX0, cX0_takeParts, 2, none, false, al, n) 0 0 c (List.zip (ix_X0_takeParts c) l) (l.drop (ix_X0_takeParts c).length) M Q
set_option maxHeartbeats 4000000 in
set_option maxRecDepth 100000 in
noncomputable def T_X0_takeParts_0.{u} {α : Sort u} (J : Nat → List Value → Mem → α) (R : Unit → Mem → α) (N : α) (n : Nat) (a0 : Nat) (M : Mem) : α := gd (fO M a0 0) N (bnd (M.2.2.2.2 a0 0) N (fun r3 => gd (fO M r3 5) N (gd (1 ≤ n) N (J 23 [.ref a0, .int 0] (wJ (wI M a0 7 (if 40 < (M.2.2.1 r3 6) then 40 else (M.2.2.1 r3 6))) a0 9 0)))))
set_option maxHeartbeats 4000000 in
set_option maxRecDepth 100000 in
theorem n_X0_takeParts_0.{u, v} {α : Sort u} {β : Sort v} (h : α → β) (J : Nat → List Value → Mem → α) (R : Unit → Mem → α) (N : α) (n : Nat) (a0 : Nat) (M : Mem) : h (T_X0_takeParts_0 J R N n a0 M) = T_X0_takeParts_0 (fun c l M => h (J c l M)) (fun v M => h (R v M)) (h N) n a0 M := by
  simp only [T_X0_takeParts_0, nat_ite h, nat_gd h, nat_bnd h, nat_bnd2 h]
set_option maxHeartbeats 4000000 in
set_option maxRecDepth 100000 in
theorem w_X0_takeParts_0 {X : Nat × (Nat → Int32)} {al : Bool} {n : Nat} {Q : Option Value → Mem → Prop} {J : Nat → List Value → Mem → Prop} (hJ : ∀ c l M, J c l M → PW_X0_takeParts X al n Q c l M) {R : Unit → Mem → Prop} (hR : ∀ v M, R v M → Q none M) {a0 : Nat} {M : Mem} (h : T_X0_takeParts_0 J R False n a0 M) : AW X (RX0, cX0_takeParts, 2, none, false, al, n) 0 0 0 [(0, .ref a0)] [] M Q := by
  unfold T_X0_takeParts_0 at h
  refine a_aload_n dX0_takeParts_0 rfl rfl ?_
  refine a_aload_n dX0_takeParts_1 rfl rfl ?_
  obtain ⟨⟨ga1, gs2⟩, h⟩ := gd_t h
  obtain ⟨r3, e4, h⟩ := bnd_t h
  refine a_get (v := .ref r3) dX0_takeParts_2 fl_0_28 ga1 gs2 (gvR e4 rfl) ?_
  obtain ⟨⟨ga5, gs6⟩, h⟩ := gd_t h
  refine a_getN (v := .int (M.2.2.1 r3 6)) dX0_takeParts_5 fn_0_72 ga5 gs6 rfl ?_
  refine a_bipush (v := 40) dX0_takeParts_8 (by decide) ?_
  obtain ⟨gf7, h⟩ := gd_t h
  refine a_mmin dX0_takeParts_10 mm_X0_73 mmin_s ini_Math mmin_c gf7 (Nat.le_of_ble_eq_true rfl) ?_
  refine a_putI dX0_takeParts_13 (Or.inl ⟨fl_0_79, Or.inl rfl⟩) rfl ga1 gs2 rfl rfl ?_
  refine a_aload_n dX0_takeParts_16 rfl rfl ?_
  refine a_lconst (v := 0) dX0_takeParts_17 (by decide) ?_
  refine a_putJ dX0_takeParts_18 (Or.inl ⟨fl_0_80, Or.inl rfl⟩) rfl ga1 gs2 ?_
  refine a_iconst (v := 0) dX0_takeParts_21 (by decide) ?_
  refine a_istore_n dX0_takeParts_22 rfl (Nat.le_of_ble_eq_true rfl) (lv2 := [(1, .int 0), (0, .ref a0)]) rfl ?_
  exact a_lv (lv2 := [(0, .ref a0), (1, .int 0)]) (fa_cons rfl (fa_cons rfl fa_nil)) (hJ _ _ _ h)
set_option maxHeartbeats 4000000 in
set_option maxRecDepth 100000 in
noncomputable def T_X0_takeParts_23.{u} {α : Sort u} (J : Nat → List Value → Mem → α) (R : Unit → Mem → α) (N : α) (n : Nat) (a0 : Nat) (x1 : Int32) (M : Mem) : α := gd (fO M a0 0) N (if (M.2.2.1 a0 7) ≤ x1 then R () M else bnd (M.2.2.2.2 a0 1) N (fun r4 => bnd (M.2.2.2.2 a0 0) N (fun r6 => gd (fO M r6 5) N (bnd2 (cal n (fun n => f_X5_kindAt n r6 x1 M)) N (fun v10 M11 => gd (fA M11 r4 1 x1) N (gd (fO M11 a0 0) N (bnd (M11.2.2.2.2 a0 2) N (fun r21 => bnd (M11.2.2.2.2 a0 1) N (fun r23 => gd (fA M11 r23 1 x1) N (if 9 ≤ ((wI M11 r4 (x1.toNatClampNeg) v10).2.2.1 r23 (x1.toNatClampNeg)) then bnd (M11.2.2.2.2 a0 0) N (fun r30 => gd (fO M11 r30 5) N (bnd2 (cal n (fun n => f_X5_leftAt n r30 x1 (wI M11 r4 (x1.toNatClampNeg) v10))) N (fun v34 M35 => bnd2 (cal n (fun n => f_X0_bit n v34 M35)) N (fun v39 M40 => J 76 [.ref a0, .int x1, .long v39, .int x1, .ref r21] M40)))) else J 76 [.ref a0, .int x1, .long 0, .int x1, .ref r21] (wI M11 r4 (x1.toNatClampNeg) v10)))))))))))
set_option maxHeartbeats 4000000 in
set_option maxRecDepth 100000 in
theorem n_X0_takeParts_23.{u, v} {α : Sort u} {β : Sort v} (h : α → β) (J : Nat → List Value → Mem → α) (R : Unit → Mem → α) (N : α) (n : Nat) (a0 : Nat) (x1 : Int32) (M : Mem) : h (T_X0_takeParts_23 J R N n a0 x1 M) = T_X0_takeParts_23 (fun c l M => h (J c l M)) (fun v M => h (R v M)) (h N) n a0 x1 M := by
  simp only [T_X0_takeParts_23, nat_ite h, nat_gd h, nat_bnd h, nat_bnd2 h]
set_option maxHeartbeats 4000000 in
set_option maxRecDepth 100000 in
theorem w_X0_takeParts_23 {X : Nat × (Nat → Int32)} {al : Bool} {n : Nat} {Q : Option Value → Mem → Prop} {J : Nat → List Value → Mem → Prop} (hJ : ∀ c l M, J c l M → PW_X0_takeParts X al n Q c l M) {R : Unit → Mem → Prop} (hR : ∀ v M, R v M → Q none M) {a0 : Nat} {x1 : Int32} {M : Mem} (h : T_X0_takeParts_23 J R False n a0 x1 M) : AW X (RX0, cX0_takeParts, 2, none, false, al, n) 0 0 23 [(0, .ref a0), (1, .int x1)] [] M Q := by
  unfold T_X0_takeParts_23 at h
  refine a_iload_n dX0_takeParts_23 rfl rfl ?_
  refine a_aload_n dX0_takeParts_24 rfl rfl ?_
  obtain ⟨⟨ga1, gs2⟩, h⟩ := gd_t h
  refine a_get (v := .int (M.2.2.1 a0 7)) dX0_takeParts_25 fl_0_79 ga1 gs2 rfl ?_
  refine a_icmp_ge 134 dX0_takeParts_28 (by decide) (fun c3 => ?_) (fun c3 => ?_)
  · replace h := ite_t c3 h
    exact a_vret dX0_takeParts_134 rfl (hR _ _ h)
  · replace h := ite_f c3 h
    refine a_aload_n dX0_takeParts_31 rfl rfl ?_
    obtain ⟨r4, e5, h⟩ := bnd_t h
    refine a_get (v := .ref r4) dX0_takeParts_32 fl_0_9 ga1 gs2 (gvR e5 rfl) ?_
    refine a_iload_n dX0_takeParts_35 rfl rfl ?_
    refine a_aload_n dX0_takeParts_36 rfl rfl ?_
    obtain ⟨r6, e7, h⟩ := bnd_t h
    refine a_get (v := .ref r6) dX0_takeParts_37 fl_0_28 ga1 gs2 (gvR e7 rfl) ?_
    refine a_iload_n dX0_takeParts_40 rfl rfl ?_
    obtain ⟨⟨ga8, gs9⟩, h⟩ := gd_t h
    obtain ⟨v10, M11, e12, h⟩ := bnd2_t h
    obtain ⟨n13, en14, e12⟩ := cal_t e12
    refine e_callV (As := [.int x1]) (st := [.int x1, .ref r4]) (a := r6) (ci := 5) false dX0_takeParts_41 mw_X5_kindAt (Or.inl ⟨rfl, ml_X0_83⟩) im_X5_kindAt se_X5_kindAt (by decide) ga8 gs9 rfl (Nat.le_of_ble_eq_true rfl) en14 (s_X5_kindAt e12) ?_
    obtain ⟨⟨ga15, gn16, gs17, gi18⟩, h⟩ := gd_t h
    refine a_iastore dX0_takeParts_44 ga15 gs17 gi18 ?_
    refine a_aload_n dX0_takeParts_45 rfl rfl ?_
    obtain ⟨⟨ga19, gs20⟩, h⟩ := gd_t h
    obtain ⟨r21, e22, h⟩ := bnd_t h
    refine a_get (v := .ref r21) dX0_takeParts_46 fl_0_15 ga19 gs20 (gvR e22 rfl) ?_
    refine a_iload_n dX0_takeParts_49 rfl rfl ?_
    refine a_aload_n dX0_takeParts_50 rfl rfl ?_
    obtain ⟨r23, e24, h⟩ := bnd_t h
    refine a_get (v := .ref r23) dX0_takeParts_51 fl_0_9 ga19 gs20 (gvR e24 rfl) ?_
    refine a_iload_n dX0_takeParts_54 rfl rfl ?_
    obtain ⟨⟨ga25, gn26, gs27, gi28⟩, h⟩ := gd_t h
    refine a_iaload dX0_takeParts_55 ga25 gs27 gi28 ?_
    refine a_bipush (v := 9) dX0_takeParts_56 (by decide) ?_
    refine a_icmp_ge 65 dX0_takeParts_58 (by decide) (fun c29 => ?_) (fun c29 => ?_)
    · replace h := ite_t c29 h
      refine a_aload_n dX0_takeParts_65 rfl rfl ?_
      obtain ⟨r30, e31, h⟩ := bnd_t h
      refine a_get (v := .ref r30) dX0_takeParts_66 fl_0_28 ga19 gs20 (gvR e31 rfl) ?_
      refine a_iload_n dX0_takeParts_69 rfl rfl ?_
      obtain ⟨⟨ga32, gs33⟩, h⟩ := gd_t h
      obtain ⟨v34, M35, e36, h⟩ := bnd2_t h
      obtain ⟨n37, en38, e36⟩ := cal_t e36
      refine e_callV (As := [.int x1]) (st := [.int x1, .ref r21]) (a := r30) (ci := 5) false dX0_takeParts_70 mw_X5_leftAt (Or.inl ⟨rfl, ml_X0_86⟩) im_X5_leftAt se_X5_leftAt (by decide) ga32 gs33 rfl (Nat.le_of_ble_eq_true rfl) en38 (s_X5_leftAt e36) ?_
      obtain ⟨v39, M40, e41, h⟩ := bnd2_t h
      obtain ⟨n42, en43, e41⟩ := cal_t e41
      refine e_callS (As := [.int v34]) (st := [.int x1, .ref r21]) false dX0_takeParts_73 mw_X0_bit (Or.inl ⟨rfl, ml_X0_53⟩) sm_X0_bit rfl (Nat.le_of_ble_eq_true rfl) en43 (s_X0_bit e41) ?_
      exact a_lv (lv2 := [(0, .ref a0), (1, .int x1)]) (fa_cons rfl (fa_cons rfl fa_nil)) (hJ _ _ _ h)
    · replace h := ite_f c29 h
      refine a_lconst (v := 0) dX0_takeParts_61 (by decide) ?_
      refine a_goto 76 dX0_takeParts_62 (by decide) ?_
      exact a_lv (lv2 := [(0, .ref a0), (1, .int x1)]) (fa_cons rfl (fa_cons rfl fa_nil)) (hJ _ _ _ h)
set_option maxHeartbeats 4000000 in
set_option maxRecDepth 100000 in
noncomputable def T_X0_takeParts_76.{u} {α : Sort u} (J : Nat → List Value → Mem → α) (R : Unit → Mem → α) (N : α) (n : Nat) (a0 : Nat) (x1 : Int32) (js0 : Int64) (xs1 : Int32) (ra2 : Nat) (M : Mem) : α := gd (fA M ra2 2 xs1) N (gd (fO M a0 0) N (bnd (M.2.2.2.2 a0 3) N (fun r7 => bnd (M.2.2.2.2 a0 1) N (fun r9 => gd (fA M r9 1 x1) N (if 9 ≤ (M.2.2.1 r9 (x1.toNatClampNeg)) then bnd (M.2.2.2.2 a0 0) N (fun r16 => gd (fO M r16 5) N (bnd2 (cal n (fun n => f_X5_rightAt n r16 x1 (wJ M ra2 (xs1.toNatClampNeg) js0))) N (fun v20 M21 => bnd2 (cal n (fun n => f_X0_bit n v20 M21)) N (fun v25 M26 => J 108 [.ref a0, .int x1, .long v25, .int x1, .ref r7] M26)))) else J 108 [.ref a0, .int x1, .long 0, .int x1, .ref r7] (wJ M ra2 (xs1.toNatClampNeg) js0))))))
set_option maxHeartbeats 4000000 in
set_option maxRecDepth 100000 in
theorem n_X0_takeParts_76.{u, v} {α : Sort u} {β : Sort v} (h : α → β) (J : Nat → List Value → Mem → α) (R : Unit → Mem → α) (N : α) (n : Nat) (a0 : Nat) (x1 : Int32) (js0 : Int64) (xs1 : Int32) (ra2 : Nat) (M : Mem) : h (T_X0_takeParts_76 J R N n a0 x1 js0 xs1 ra2 M) = T_X0_takeParts_76 (fun c l M => h (J c l M)) (fun v M => h (R v M)) (h N) n a0 x1 js0 xs1 ra2 M := by
  simp only [T_X0_takeParts_76, nat_ite h, nat_gd h, nat_bnd h, nat_bnd2 h]
set_option maxHeartbeats 4000000 in
set_option maxRecDepth 100000 in
theorem w_X0_takeParts_76 {X : Nat × (Nat → Int32)} {al : Bool} {n : Nat} {Q : Option Value → Mem → Prop} {J : Nat → List Value → Mem → Prop} (hJ : ∀ c l M, J c l M → PW_X0_takeParts X al n Q c l M) {R : Unit → Mem → Prop} (hR : ∀ v M, R v M → Q none M) {a0 : Nat} {x1 : Int32} {js0 : Int64} {xs1 : Int32} {ra2 : Nat} {M : Mem} (h : T_X0_takeParts_76 J R False n a0 x1 js0 xs1 ra2 M) : AW X (RX0, cX0_takeParts, 2, none, false, al, n) 0 0 76 [(0, .ref a0), (1, .int x1)] [.long js0, .int xs1, .ref ra2] M Q := by
  unfold T_X0_takeParts_76 at h
  obtain ⟨⟨ga1, gn2, gs3, gi4⟩, h⟩ := gd_t h
  refine a_lastore dX0_takeParts_76 ga1 gs3 gi4 ?_
  refine a_aload_n dX0_takeParts_77 rfl rfl ?_
  obtain ⟨⟨ga5, gs6⟩, h⟩ := gd_t h
  obtain ⟨r7, e8, h⟩ := bnd_t h
  refine a_get (v := .ref r7) dX0_takeParts_78 fl_0_19 ga5 gs6 (gvR e8 rfl) ?_
  refine a_iload_n dX0_takeParts_81 rfl rfl ?_
  refine a_aload_n dX0_takeParts_82 rfl rfl ?_
  obtain ⟨r9, e10, h⟩ := bnd_t h
  refine a_get (v := .ref r9) dX0_takeParts_83 fl_0_9 ga5 gs6 (gvR e10 rfl) ?_
  refine a_iload_n dX0_takeParts_86 rfl rfl ?_
  obtain ⟨⟨ga11, gn12, gs13, gi14⟩, h⟩ := gd_t h
  refine a_iaload dX0_takeParts_87 ga11 gs13 gi14 ?_
  refine a_bipush (v := 9) dX0_takeParts_88 (by decide) ?_
  refine a_icmp_ge 97 dX0_takeParts_90 (by decide) (fun c15 => ?_) (fun c15 => ?_)
  · replace h := ite_t c15 h
    refine a_aload_n dX0_takeParts_97 rfl rfl ?_
    obtain ⟨r16, e17, h⟩ := bnd_t h
    refine a_get (v := .ref r16) dX0_takeParts_98 fl_0_28 ga5 gs6 (gvR e17 rfl) ?_
    refine a_iload_n dX0_takeParts_101 rfl rfl ?_
    obtain ⟨⟨ga18, gs19⟩, h⟩ := gd_t h
    obtain ⟨v20, M21, e22, h⟩ := bnd2_t h
    obtain ⟨n23, en24, e22⟩ := cal_t e22
    refine e_callV (As := [.int x1]) (st := [.int x1, .ref r7]) (a := r16) (ci := 5) false dX0_takeParts_102 mw_X5_rightAt (Or.inl ⟨rfl, ml_X0_89⟩) im_X5_rightAt se_X5_rightAt (by decide) ga18 gs19 rfl (Nat.le_of_ble_eq_true rfl) en24 (s_X5_rightAt e22) ?_
    obtain ⟨v25, M26, e27, h⟩ := bnd2_t h
    obtain ⟨n28, en29, e27⟩ := cal_t e27
    refine e_callS (As := [.int v20]) (st := [.int x1, .ref r7]) false dX0_takeParts_105 mw_X0_bit (Or.inl ⟨rfl, ml_X0_53⟩) sm_X0_bit rfl (Nat.le_of_ble_eq_true rfl) en29 (s_X0_bit e27) ?_
    exact a_lv (lv2 := [(0, .ref a0), (1, .int x1)]) (fa_cons rfl (fa_cons rfl fa_nil)) (hJ _ _ _ h)
  · replace h := ite_f c15 h
    refine a_lconst (v := 0) dX0_takeParts_93 (by decide) ?_
    refine a_goto 108 dX0_takeParts_94 (by decide) ?_
    exact a_lv (lv2 := [(0, .ref a0), (1, .int x1)]) (fa_cons rfl (fa_cons rfl fa_nil)) (hJ _ _ _ h)
set_option maxHeartbeats 4000000 in
set_option maxRecDepth 100000 in
noncomputable def T_X0_takeParts_108.{u} {α : Sort u} (J : Nat → List Value → Mem → α) (R : Unit → Mem → α) (N : α) (n : Nat) (a0 : Nat) (x1 : Int32) (js0 : Int64) (xs1 : Int32) (ra2 : Nat) (M : Mem) : α := gd (fA M ra2 2 xs1) N (gd (fO M a0 0) N (bnd (M.2.2.2.2 a0 1) N (fun r7 => gd (fA M r7 1 x1) N (if (M.2.2.1 r7 (x1.toNatClampNeg)) = 8 then bnd2 (cal n (fun n => f_X0_bit n x1 (wJ M ra2 (xs1.toNatClampNeg) js0))) N (fun v14 M15 => gd (fO M15 a0 0) N (J 23 [.ref a0, .int (x1 + 1)] (wJ M15 a0 9 v14))) else J 23 [.ref a0, .int (x1 + 1)] (wJ M ra2 (xs1.toNatClampNeg) js0)))))
set_option maxHeartbeats 4000000 in
set_option maxRecDepth 100000 in
theorem n_X0_takeParts_108.{u, v} {α : Sort u} {β : Sort v} (h : α → β) (J : Nat → List Value → Mem → α) (R : Unit → Mem → α) (N : α) (n : Nat) (a0 : Nat) (x1 : Int32) (js0 : Int64) (xs1 : Int32) (ra2 : Nat) (M : Mem) : h (T_X0_takeParts_108 J R N n a0 x1 js0 xs1 ra2 M) = T_X0_takeParts_108 (fun c l M => h (J c l M)) (fun v M => h (R v M)) (h N) n a0 x1 js0 xs1 ra2 M := by
  simp only [T_X0_takeParts_108, nat_ite h, nat_gd h, nat_bnd h, nat_bnd2 h]
set_option maxHeartbeats 4000000 in
set_option maxRecDepth 100000 in
theorem w_X0_takeParts_108 {X : Nat × (Nat → Int32)} {al : Bool} {n : Nat} {Q : Option Value → Mem → Prop} {J : Nat → List Value → Mem → Prop} (hJ : ∀ c l M, J c l M → PW_X0_takeParts X al n Q c l M) {R : Unit → Mem → Prop} (hR : ∀ v M, R v M → Q none M) {a0 : Nat} {x1 : Int32} {js0 : Int64} {xs1 : Int32} {ra2 : Nat} {M : Mem} (h : T_X0_takeParts_108 J R False n a0 x1 js0 xs1 ra2 M) : AW X (RX0, cX0_takeParts, 2, none, false, al, n) 0 0 108 [(0, .ref a0), (1, .int x1)] [.long js0, .int xs1, .ref ra2] M Q := by
  unfold T_X0_takeParts_108 at h
  obtain ⟨⟨ga1, gn2, gs3, gi4⟩, h⟩ := gd_t h
  refine a_lastore dX0_takeParts_108 ga1 gs3 gi4 ?_
  refine a_aload_n dX0_takeParts_109 rfl rfl ?_
  obtain ⟨⟨ga5, gs6⟩, h⟩ := gd_t h
  obtain ⟨r7, e8, h⟩ := bnd_t h
  refine a_get (v := .ref r7) dX0_takeParts_110 fl_0_9 ga5 gs6 (gvR e8 rfl) ?_
  refine a_iload_n dX0_takeParts_113 rfl rfl ?_
  obtain ⟨⟨ga9, gn10, gs11, gi12⟩, h⟩ := gd_t h
  refine a_iaload dX0_takeParts_114 ga9 gs11 gi12 ?_
  refine a_bipush (v := 8) dX0_takeParts_115 (by decide) ?_
  refine a_icmp_ne 128 dX0_takeParts_117 (by decide) (fun c13 => ?_) (fun c13 => ?_)
  · replace h := ite_f c13 h
    refine a_iinc (v := (x1 + 1)) dX0_takeParts_128 rfl (by first | rfl | decide) (Nat.le_of_ble_eq_true rfl) (lv2 := [(1, .int (x1 + 1)), (0, .ref a0)]) rfl ?_
    refine a_goto 23 dX0_takeParts_131 (by decide) ?_
    exact a_lv (lv2 := [(0, .ref a0), (1, .int (x1 + 1))]) (fa_cons rfl (fa_cons rfl fa_nil)) (hJ _ _ _ h)
  · replace h := ite_t c13 h
    refine a_aload_n dX0_takeParts_120 rfl rfl ?_
    refine a_iload_n dX0_takeParts_121 rfl rfl ?_
    obtain ⟨v14, M15, e16, h⟩ := bnd2_t h
    obtain ⟨n17, en18, e16⟩ := cal_t e16
    refine e_callS (As := [.int x1]) (st := [.ref a0]) false dX0_takeParts_122 mw_X0_bit (Or.inl ⟨rfl, ml_X0_53⟩) sm_X0_bit rfl (Nat.le_of_ble_eq_true rfl) en18 (s_X0_bit e16) ?_
    obtain ⟨⟨ga19, gs20⟩, h⟩ := gd_t h
    refine a_putJ dX0_takeParts_125 (Or.inl ⟨fl_0_80, Or.inl rfl⟩) rfl ga19 gs20 ?_
    refine a_iinc (v := (x1 + 1)) dX0_takeParts_128 rfl (by first | rfl | decide) (Nat.le_of_ble_eq_true rfl) (lv2 := [(1, .int (x1 + 1)), (0, .ref a0)]) rfl ?_
    refine a_goto 23 dX0_takeParts_131 (by decide) ?_
    exact a_lv (lv2 := [(0, .ref a0), (1, .int (x1 + 1))]) (fa_cons rfl (fa_cons rfl fa_nil)) (hJ _ _ _ h)
set_option maxHeartbeats 4000000 in
set_option maxRecDepth 100000 in
noncomputable def st_X0_takeParts (n : Nat) (s : Sg) : Option (Sg ⊕ (Unit × Mem)) := if s.1 = 0 then vR s.2.1 none (fun a0 t => vE t none (T_X0_takeParts_0 (fun c l M => some (.inl (c, l, M))) (fun v M => some (.inr (v, M))) none n a0 s.2.2)) else if s.1 = 23 then vR s.2.1 none (fun a0 t => vI t none (fun x1 t => vE t none (T_X0_takeParts_23 (fun c l M => some (.inl (c, l, M))) (fun v M => some (.inr (v, M))) none n a0 x1 s.2.2))) else if s.1 = 76 then vR s.2.1 none (fun a0 t => vI t none (fun x1 t => vJ t none (fun js0 t => vI t none (fun xs1 t => vR t none (fun ra2 t => vE t none (T_X0_takeParts_76 (fun c l M => some (.inl (c, l, M))) (fun v M => some (.inr (v, M))) none n a0 x1 js0 xs1 ra2 s.2.2)))))) else if s.1 = 108 then vR s.2.1 none (fun a0 t => vI t none (fun x1 t => vJ t none (fun js0 t => vI t none (fun xs1 t => vR t none (fun ra2 t => vE t none (T_X0_takeParts_108 (fun c l M => some (.inl (c, l, M))) (fun v M => some (.inr (v, M))) none n a0 x1 js0 xs1 ra2 s.2.2)))))) else none
noncomputable abbrev g_X0_takeParts_0 (n : Nat) (a0 : Nat) (M : Mem) : Option (Unit × Mem) := lp (st_X0_takeParts n) (0, [.ref a0], M)
set_option maxHeartbeats 4000000 in
set_option maxRecDepth 100000 in
theorem ge_X0_takeParts_0 (n : Nat) (a0 : Nat) (M : Mem) : g_X0_takeParts_0 n a0 M = T_X0_takeParts_0 (fun c l M => lp (st_X0_takeParts n) (c, l, M)) (fun v M => some (v, M)) none n a0 M := (lp_eq _ _).trans (n_X0_takeParts_0 (lpK (st_X0_takeParts n)) (fun c l M => some (.inl (c, l, M))) (fun v M => some (.inr (v, M))) none n a0 M)
noncomputable abbrev g_X0_takeParts_23 (n : Nat) (a0 : Nat) (x1 : Int32) (M : Mem) : Option (Unit × Mem) := lp (st_X0_takeParts n) (23, [.ref a0, .int x1], M)
set_option maxHeartbeats 4000000 in
set_option maxRecDepth 100000 in
theorem ge_X0_takeParts_23 (n : Nat) (a0 : Nat) (x1 : Int32) (M : Mem) : g_X0_takeParts_23 n a0 x1 M = T_X0_takeParts_23 (fun c l M => lp (st_X0_takeParts n) (c, l, M)) (fun v M => some (v, M)) none n a0 x1 M := (lp_eq _ _).trans (n_X0_takeParts_23 (lpK (st_X0_takeParts n)) (fun c l M => some (.inl (c, l, M))) (fun v M => some (.inr (v, M))) none n a0 x1 M)
noncomputable abbrev g_X0_takeParts_76 (n : Nat) (a0 : Nat) (x1 : Int32) (js0 : Int64) (xs1 : Int32) (ra2 : Nat) (M : Mem) : Option (Unit × Mem) := lp (st_X0_takeParts n) (76, [.ref a0, .int x1, .long js0, .int xs1, .ref ra2], M)
set_option maxHeartbeats 4000000 in
set_option maxRecDepth 100000 in
theorem ge_X0_takeParts_76 (n : Nat) (a0 : Nat) (x1 : Int32) (js0 : Int64) (xs1 : Int32) (ra2 : Nat) (M : Mem) : g_X0_takeParts_76 n a0 x1 js0 xs1 ra2 M = T_X0_takeParts_76 (fun c l M => lp (st_X0_takeParts n) (c, l, M)) (fun v M => some (v, M)) none n a0 x1 js0 xs1 ra2 M := (lp_eq _ _).trans (n_X0_takeParts_76 (lpK (st_X0_takeParts n)) (fun c l M => some (.inl (c, l, M))) (fun v M => some (.inr (v, M))) none n a0 x1 js0 xs1 ra2 M)
noncomputable abbrev g_X0_takeParts_108 (n : Nat) (a0 : Nat) (x1 : Int32) (js0 : Int64) (xs1 : Int32) (ra2 : Nat) (M : Mem) : Option (Unit × Mem) := lp (st_X0_takeParts n) (108, [.ref a0, .int x1, .long js0, .int xs1, .ref ra2], M)
set_option maxHeartbeats 4000000 in
set_option maxRecDepth 100000 in
theorem ge_X0_takeParts_108 (n : Nat) (a0 : Nat) (x1 : Int32) (js0 : Int64) (xs1 : Int32) (ra2 : Nat) (M : Mem) : g_X0_takeParts_108 n a0 x1 js0 xs1 ra2 M = T_X0_takeParts_108 (fun c l M => lp (st_X0_takeParts n) (c, l, M)) (fun v M => some (v, M)) none n a0 x1 js0 xs1 ra2 M := (lp_eq _ _).trans (n_X0_takeParts_108 (lpK (st_X0_takeParts n)) (fun c l M => some (.inl (c, l, M))) (fun v M => some (.inr (v, M))) none n a0 x1 js0 xs1 ra2 M)
noncomputable def b_X0_takeParts (n : Nat) (a0 : Nat) (M : Mem) : Option (Unit × Mem) := g_X0_takeParts_0 n a0 M
set_option maxHeartbeats 4000000 in
set_option maxRecDepth 100000 in
theorem sb_X0_takeParts {X : Nat × (Nat → Int32)} {al : Bool} {n : Nat} {a0 : Nat} {M : Mem} {v : Unit} {M1 : Mem} (h : b_X0_takeParts n a0 M = some (v, M1)) : AE yX0_takeParts cX0_takeParts 2 none al n X [.ref a0] M none M1 := by
  refine AM.of false (by decide +kernel) (by intro h; cases h) (Nat.le_of_ble_eq_true rfl) ?_
  refine lp_snd (P := fun s r => PW_X0_takeParts X al n (fun v M2 => v = none ∧ M2 = r.2) s.1 s.2.1 s.2.2) ?_ h
  clear h
  rintro ⟨c, l, M⟩ r h
  unfold st_X0_takeParts at h
  rcases ite_p h with ⟨e, h⟩ | ⟨e, h⟩
  · replace e : c = 0 := e
    subst e
    obtain ⟨a0, tt0, e, h⟩ := vR_p id h
    replace e : l = _ := e
    subst e
    obtain ⟨e, h⟩ := vE_p id h
    replace e : tt0 = [] := e
    subst e
    exact w_X0_takeParts_0 (J := fun c l M => PW_X0_takeParts X al n (fun v M2 => v = none ∧ M2 = r.2) c l M) (R := fun v M => (v, M) = r) (fun _ _ _ h => h) (fun v M h => by cases h; exact ⟨rfl, rfl⟩) ((n_X0_takeParts_0 (lpP (fun (s : Sg) (r : Unit × Mem) => PW_X0_takeParts X al n (fun v M2 => v = none ∧ M2 = r.2) s.1 s.2.1 s.2.2) r) (fun c l M => some (.inl (c, l, M))) (fun v M => some (.inr (v, M))) none n a0 M).mp h)
  rcases ite_p h with ⟨e, h⟩ | ⟨e, h⟩
  · replace e : c = 23 := e
    subst e
    obtain ⟨a0, tt0, e, h⟩ := vR_p id h
    replace e : l = _ := e
    subst e
    obtain ⟨x1, tt1, e, h⟩ := vI_p id h
    replace e : tt0 = _ := e
    subst e
    obtain ⟨e, h⟩ := vE_p id h
    replace e : tt1 = [] := e
    subst e
    exact w_X0_takeParts_23 (J := fun c l M => PW_X0_takeParts X al n (fun v M2 => v = none ∧ M2 = r.2) c l M) (R := fun v M => (v, M) = r) (fun _ _ _ h => h) (fun v M h => by cases h; exact ⟨rfl, rfl⟩) ((n_X0_takeParts_23 (lpP (fun (s : Sg) (r : Unit × Mem) => PW_X0_takeParts X al n (fun v M2 => v = none ∧ M2 = r.2) s.1 s.2.1 s.2.2) r) (fun c l M => some (.inl (c, l, M))) (fun v M => some (.inr (v, M))) none n a0 x1 M).mp h)
  rcases ite_p h with ⟨e, h⟩ | ⟨e, h⟩
  · replace e : c = 76 := e
    subst e
    obtain ⟨a0, tt0, e, h⟩ := vR_p id h
    replace e : l = _ := e
    subst e
    obtain ⟨x1, tt1, e, h⟩ := vI_p id h
    replace e : tt0 = _ := e
    subst e
    obtain ⟨js0, tt2, e, h⟩ := vJ_p id h
    replace e : tt1 = _ := e
    subst e
    obtain ⟨xs1, tt3, e, h⟩ := vI_p id h
    replace e : tt2 = _ := e
    subst e
    obtain ⟨ra2, tt4, e, h⟩ := vR_p id h
    replace e : tt3 = _ := e
    subst e
    obtain ⟨e, h⟩ := vE_p id h
    replace e : tt4 = [] := e
    subst e
    exact w_X0_takeParts_76 (J := fun c l M => PW_X0_takeParts X al n (fun v M2 => v = none ∧ M2 = r.2) c l M) (R := fun v M => (v, M) = r) (fun _ _ _ h => h) (fun v M h => by cases h; exact ⟨rfl, rfl⟩) ((n_X0_takeParts_76 (lpP (fun (s : Sg) (r : Unit × Mem) => PW_X0_takeParts X al n (fun v M2 => v = none ∧ M2 = r.2) s.1 s.2.1 s.2.2) r) (fun c l M => some (.inl (c, l, M))) (fun v M => some (.inr (v, M))) none n a0 x1 js0 xs1 ra2 M).mp h)
  rcases ite_p h with ⟨e, h⟩ | ⟨e, h⟩
  · replace e : c = 108 := e
    subst e
    obtain ⟨a0, tt0, e, h⟩ := vR_p id h
    replace e : l = _ := e
    subst e
    obtain ⟨x1, tt1, e, h⟩ := vI_p id h
    replace e : tt0 = _ := e
    subst e
    obtain ⟨js0, tt2, e, h⟩ := vJ_p id h
    replace e : tt1 = _ := e
    subst e
    obtain ⟨xs1, tt3, e, h⟩ := vI_p id h
    replace e : tt2 = _ := e
    subst e
    obtain ⟨ra2, tt4, e, h⟩ := vR_p id h
    replace e : tt3 = _ := e
    subst e
    obtain ⟨e, h⟩ := vE_p id h
    replace e : tt4 = [] := e
    subst e
    exact w_X0_takeParts_108 (J := fun c l M => PW_X0_takeParts X al n (fun v M2 => v = none ∧ M2 = r.2) c l M) (R := fun v M => (v, M) = r) (fun _ _ _ h => h) (fun v M h => by cases h; exact ⟨rfl, rfl⟩) ((n_X0_takeParts_108 (lpP (fun (s : Sg) (r : Unit × Mem) => PW_X0_takeParts X al n (fun v M2 => v = none ∧ M2 = r.2) s.1 s.2.1 s.2.2) r) (fun c l M => some (.inl (c, l, M))) (fun v M => some (.inr (v, M))) none n a0 x1 js0 xs1 ra2 M).mp h)
  · exact h.elim

noncomputable abbrev f_X0_takeParts := b_X0_takeParts
theorem s_X0_takeParts {X : Nat × (Nat → Int32)} {al : Bool} {n : Nat} {a0 : Nat} {M : Mem} {v : Unit} {M1 : Mem} (h : f_X0_takeParts n a0 M = some (v, M1)) : AE yX0_takeParts cX0_takeParts 2 none al n X [.ref a0] M none M1 := sb_X0_takeParts h
def ix_X0_findAsked (c : Nat) : List Nat := if c = 0 then [0, 1] else if c = 16 then [0, 3, 5, 7] else if c = 38 then [0, 3, 5, 7] else if c = 82 then [0, 5, 7, 8] else if c = 105 then [0, 3, 5, 7, 8] else if c = 149 then [0, 3, 7, 8] else []
def PW_X0_findAsked (X : Nat × (Nat → Int32)) (al : Bool) (n : Nat) (Q : Option Value → Mem → Prop) (c : Nat) (l : List Value) (M : Mem) : Prop := AW X (RX0, cX0_findAsked, 9, (some .long), false, al, n) 0 0 c (List.zip (ix_X0_findAsked c) l) (l.drop (ix_X0_findAsked c).length) M Q
set_option maxHeartbeats 4000000 in
set_option maxRecDepth 100000 in
noncomputable def T_X0_findAsked_0.{u} {α : Sort u} (J : Nat → List Value → Mem → α) (R : Int64 → Mem → α) (N : α) (n : Nat) (a0 : Nat) (j1 : Int64) (M : Mem) : α := gd (fO M a0 0) N (J 16 [.ref a0, .long (M.2.2.2.1 a0 8), .long j1, .int ((M.2.2.1 a0 7) - 1)] M)
set_option maxHeartbeats 4000000 in
set_option maxRecDepth 100000 in
theorem n_X0_findAsked_0.{u, v} {α : Sort u} {β : Sort v} (h : α → β) (J : Nat → List Value → Mem → α) (R : Int64 → Mem → α) (N : α) (n : Nat) (a0 : Nat) (j1 : Int64) (M : Mem) : h (T_X0_findAsked_0 J R N n a0 j1 M) = T_X0_findAsked_0 (fun c l M => h (J c l M)) (fun v M => h (R v M)) (h N) n a0 j1 M := by
  simp only [T_X0_findAsked_0, nat_ite h, nat_gd h, nat_bnd h, nat_bnd2 h]
set_option maxHeartbeats 4000000 in
set_option maxRecDepth 100000 in
theorem w_X0_findAsked_0 {X : Nat × (Nat → Int32)} {al : Bool} {n : Nat} {Q : Option Value → Mem → Prop} {J : Nat → List Value → Mem → Prop} (hJ : ∀ c l M, J c l M → PW_X0_findAsked X al n Q c l M) {R : Int64 → Mem → Prop} (hR : ∀ v M, R v M → Q (some (.long v)) M) {a0 : Nat} {j1 : Int64} {M : Mem} (h : T_X0_findAsked_0 J R False n a0 j1 M) : AW X (RX0, cX0_findAsked, 9, (some .long), false, al, n) 0 0 0 [(0, .ref a0), (1, .long j1)] [] M Q := by
  unfold T_X0_findAsked_0 at h
  refine a_aload_n dX0_findAsked_0 rfl rfl ?_
  obtain ⟨⟨ga1, gs2⟩, h⟩ := gd_t h
  refine a_get (v := .long (M.2.2.2.1 a0 8)) dX0_findAsked_1 fl_0_57 ga1 gs2 rfl ?_
  refine a_lstore_n dX0_findAsked_4 rfl (Nat.le_of_ble_eq_true rfl) (lv2 := [(3, .long (M.2.2.2.1 a0 8)), (0, .ref a0), (1, .long j1)]) rfl ?_
  refine a_lload_n dX0_findAsked_5 rfl rfl ?_
  refine a_lstore dX0_findAsked_6 (Nat.le_of_ble_eq_true rfl) (lv2 := [(5, .long j1), (3, .long (M.2.2.2.1 a0 8)), (0, .ref a0), (1, .long j1)]) rfl ?_
  refine a_aload_n dX0_findAsked_8 rfl rfl ?_
  refine a_get (v := .int (M.2.2.1 a0 7)) dX0_findAsked_9 fl_0_79 ga1 gs2 rfl ?_
  refine a_iconst (v := 1) dX0_findAsked_12 (by decide) ?_
  refine a_isub dX0_findAsked_13 ?_
  refine a_istore dX0_findAsked_14 (Nat.le_of_ble_eq_true rfl) (lv2 := [(7, .int ((M.2.2.1 a0 7) - 1)), (5, .long j1), (3, .long (M.2.2.2.1 a0 8)), (0, .ref a0), (1, .long j1)]) rfl ?_
  exact a_lv (lv2 := [(0, .ref a0), (3, .long (M.2.2.2.1 a0 8)), (5, .long j1), (7, .int ((M.2.2.1 a0 7) - 1))]) (fa_cons rfl (fa_cons rfl (fa_cons rfl (fa_cons rfl fa_nil)))) (hJ _ _ _ h)
set_option maxHeartbeats 4000000 in
set_option maxRecDepth 100000 in
noncomputable def T_X0_findAsked_16.{u} {α : Sort u} (J : Nat → List Value → Mem → α) (R : Int64 → Mem → α) (N : α) (n : Nat) (a0 : Nat) (j3 : Int64) (j5 : Int64) (x7 : Int32) (M : Mem) : α := if x7 < 0 then R j3 M else gd (fO M a0 0) N (bnd (M.2.2.2.2 a0 1) N (fun r4 => gd (fA M r4 1 x7) N (if (M.2.2.1 r4 (x7.toNatClampNeg)) = 9 then J 38 [.ref a0, .long j3, .long j5, .int x7, .int 1] M else J 38 [.ref a0, .long j3, .long j5, .int x7, .int 0] M)))
set_option maxHeartbeats 4000000 in
set_option maxRecDepth 100000 in
theorem n_X0_findAsked_16.{u, v} {α : Sort u} {β : Sort v} (h : α → β) (J : Nat → List Value → Mem → α) (R : Int64 → Mem → α) (N : α) (n : Nat) (a0 : Nat) (j3 : Int64) (j5 : Int64) (x7 : Int32) (M : Mem) : h (T_X0_findAsked_16 J R N n a0 j3 j5 x7 M) = T_X0_findAsked_16 (fun c l M => h (J c l M)) (fun v M => h (R v M)) (h N) n a0 j3 j5 x7 M := by
  simp only [T_X0_findAsked_16, nat_ite h, nat_gd h, nat_bnd h, nat_bnd2 h]
set_option maxHeartbeats 4000000 in
set_option maxRecDepth 100000 in
theorem w_X0_findAsked_16 {X : Nat × (Nat → Int32)} {al : Bool} {n : Nat} {Q : Option Value → Mem → Prop} {J : Nat → List Value → Mem → Prop} (hJ : ∀ c l M, J c l M → PW_X0_findAsked X al n Q c l M) {R : Int64 → Mem → Prop} (hR : ∀ v M, R v M → Q (some (.long v)) M) {a0 : Nat} {j3 : Int64} {j5 : Int64} {x7 : Int32} {M : Mem} (h : T_X0_findAsked_16 J R False n a0 j3 j5 x7 M) : AW X (RX0, cX0_findAsked, 9, (some .long), false, al, n) 0 0 16 [(0, .ref a0), (3, .long j3), (5, .long j5), (7, .int x7)] [] M Q := by
  unfold T_X0_findAsked_16 at h
  refine a_iload dX0_findAsked_16 rfl ?_
  refine a_if_lt 177 dX0_findAsked_18 (by decide) (fun c1 => ?_) (fun c1 => ?_)
  · replace h := ite_t c1 h
    refine a_lload_n dX0_findAsked_177 rfl rfl ?_
    exact a_lret dX0_findAsked_178 rfl (hR _ _ h)
  · replace h := ite_f c1 h
    refine a_aload_n dX0_findAsked_21 rfl rfl ?_
    obtain ⟨⟨ga2, gs3⟩, h⟩ := gd_t h
    obtain ⟨r4, e5, h⟩ := bnd_t h
    refine a_get (v := .ref r4) dX0_findAsked_22 fl_0_9 ga2 gs3 (gvR e5 rfl) ?_
    refine a_iload dX0_findAsked_25 rfl ?_
    obtain ⟨⟨ga6, gn7, gs8, gi9⟩, h⟩ := gd_t h
    refine a_iaload dX0_findAsked_27 ga6 gs8 gi9 ?_
    refine a_bipush (v := 9) dX0_findAsked_28 (by decide) ?_
    refine a_icmp_ne 37 dX0_findAsked_30 (by decide) (fun c10 => ?_) (fun c10 => ?_)
    · replace h := ite_f c10 h
      refine a_iconst (v := 0) dX0_findAsked_37 (by decide) ?_
      exact a_lv (lv2 := [(0, .ref a0), (3, .long j3), (5, .long j5), (7, .int x7)]) (fa_cons rfl (fa_cons rfl (fa_cons rfl (fa_cons rfl fa_nil)))) (hJ _ _ _ h)
    · replace h := ite_t c10 h
      refine a_iconst (v := 1) dX0_findAsked_33 (by decide) ?_
      refine a_goto 38 dX0_findAsked_34 (by decide) ?_
      exact a_lv (lv2 := [(0, .ref a0), (3, .long j3), (5, .long j5), (7, .int x7)]) (fa_cons rfl (fa_cons rfl (fa_cons rfl (fa_cons rfl fa_nil)))) (hJ _ _ _ h)
set_option maxHeartbeats 4000000 in
set_option maxRecDepth 100000 in
noncomputable def T_X0_findAsked_38.{u} {α : Sort u} (J : Nat → List Value → Mem → α) (R : Int64 → Mem → α) (N : α) (n : Nat) (a0 : Nat) (j3 : Int64) (j5 : Int64) (x7 : Int32) (xs0 : Int32) (M : Mem) : α := if (lg_cmp ((lushr j3 x7) &&& 1) 0) = 0 then J 105 [.ref a0, .long j3, .long j5, .int x7, .int xs0] M else if xs0 = 0 then gd (fO M a0 0) N (bnd (M.2.2.2.2 a0 2) N (fun r5 => gd (fA M r5 2 x7) N (bnd (M.2.2.2.2 a0 3) N (fun r11 => gd (fA M r11 2 x7) N (J 82 [.ref a0, .long j5, .int x7, .int xs0, .long ((M.2.2.2.1 r5 (x7.toNatClampNeg)) ||| (M.2.2.2.1 r11 (x7.toNatClampNeg))), .long j3] M))))) else gd (fO M a0 0) N (bnd (M.2.2.2.2 a0 3) N (fun r19 => gd (fA M r19 2 x7) N (J 82 [.ref a0, .long j5, .int x7, .int xs0, .long (M.2.2.2.1 r19 (x7.toNatClampNeg)), .long j3] M)))
set_option maxHeartbeats 4000000 in
set_option maxRecDepth 100000 in
theorem n_X0_findAsked_38.{u, v} {α : Sort u} {β : Sort v} (h : α → β) (J : Nat → List Value → Mem → α) (R : Int64 → Mem → α) (N : α) (n : Nat) (a0 : Nat) (j3 : Int64) (j5 : Int64) (x7 : Int32) (xs0 : Int32) (M : Mem) : h (T_X0_findAsked_38 J R N n a0 j3 j5 x7 xs0 M) = T_X0_findAsked_38 (fun c l M => h (J c l M)) (fun v M => h (R v M)) (h N) n a0 j3 j5 x7 xs0 M := by
  simp only [T_X0_findAsked_38, nat_ite h, nat_gd h, nat_bnd h, nat_bnd2 h]
set_option maxHeartbeats 4000000 in
set_option maxRecDepth 100000 in
theorem w_X0_findAsked_38 {X : Nat × (Nat → Int32)} {al : Bool} {n : Nat} {Q : Option Value → Mem → Prop} {J : Nat → List Value → Mem → Prop} (hJ : ∀ c l M, J c l M → PW_X0_findAsked X al n Q c l M) {R : Int64 → Mem → Prop} (hR : ∀ v M, R v M → Q (some (.long v)) M) {a0 : Nat} {j3 : Int64} {j5 : Int64} {x7 : Int32} {xs0 : Int32} {M : Mem} (h : T_X0_findAsked_38 J R False n a0 j3 j5 x7 xs0 M) : AW X (RX0, cX0_findAsked, 9, (some .long), false, al, n) 0 0 38 [(0, .ref a0), (3, .long j3), (5, .long j5), (7, .int x7)] [.int xs0] M Q := by
  unfold T_X0_findAsked_38 at h
  refine a_istore dX0_findAsked_38 (Nat.le_of_ble_eq_true rfl) (lv2 := [(8, .int xs0), (0, .ref a0), (3, .long j3), (5, .long j5), (7, .int x7)]) rfl ?_
  refine a_lload_n dX0_findAsked_40 rfl rfl ?_
  refine a_iload dX0_findAsked_41 rfl ?_
  refine a_lushr dX0_findAsked_43 ?_
  refine a_lconst (v := 1) dX0_findAsked_44 (by decide) ?_
  refine a_land dX0_findAsked_45 ?_
  refine a_lconst (v := 0) dX0_findAsked_46 (by decide) ?_
  refine a_lcmp dX0_findAsked_47 ?_
  refine a_if_eq 105 dX0_findAsked_48 (by decide) (fun c1 => ?_) (fun c1 => ?_)
  · replace h := ite_t c1 h
    exact a_lv (lv2 := [(0, .ref a0), (3, .long j3), (5, .long j5), (7, .int x7), (8, .int xs0)]) (fa_cons rfl (fa_cons rfl (fa_cons rfl (fa_cons rfl (fa_cons rfl fa_nil))))) (hJ _ _ _ h)
  · replace h := ite_f c1 h
    refine a_lload_n dX0_findAsked_51 rfl rfl ?_
    refine a_iload dX0_findAsked_52 rfl ?_
    refine a_if_eq 67 dX0_findAsked_54 (by decide) (fun c2 => ?_) (fun c2 => ?_)
    · replace h := ite_t c2 h
      refine a_aload_n dX0_findAsked_67 rfl rfl ?_
      obtain ⟨⟨ga3, gs4⟩, h⟩ := gd_t h
      obtain ⟨r5, e6, h⟩ := bnd_t h
      refine a_get (v := .ref r5) dX0_findAsked_68 fl_0_15 ga3 gs4 (gvR e6 rfl) ?_
      refine a_iload dX0_findAsked_71 rfl ?_
      obtain ⟨⟨ga7, gn8, gs9, gi10⟩, h⟩ := gd_t h
      refine a_laload dX0_findAsked_73 ga7 gs9 gi10 ?_
      refine a_aload_n dX0_findAsked_74 rfl rfl ?_
      obtain ⟨r11, e12, h⟩ := bnd_t h
      refine a_get (v := .ref r11) dX0_findAsked_75 fl_0_19 ga3 gs4 (gvR e12 rfl) ?_
      refine a_iload dX0_findAsked_78 rfl ?_
      obtain ⟨⟨ga13, gn14, gs15, gi16⟩, h⟩ := gd_t h
      refine a_laload dX0_findAsked_80 ga13 gs15 gi16 ?_
      refine a_lor dX0_findAsked_81 ?_
      exact a_lv (lv2 := [(0, .ref a0), (5, .long j5), (7, .int x7), (8, .int xs0)]) (fa_cons rfl (fa_cons rfl (fa_cons rfl (fa_cons rfl fa_nil)))) (hJ _ _ _ h)
    · replace h := ite_f c2 h
      refine a_aload_n dX0_findAsked_57 rfl rfl ?_
      obtain ⟨⟨ga17, gs18⟩, h⟩ := gd_t h
      obtain ⟨r19, e20, h⟩ := bnd_t h
      refine a_get (v := .ref r19) dX0_findAsked_58 fl_0_19 ga17 gs18 (gvR e20 rfl) ?_
      refine a_iload dX0_findAsked_61 rfl ?_
      obtain ⟨⟨ga21, gn22, gs23, gi24⟩, h⟩ := gd_t h
      refine a_laload dX0_findAsked_63 ga21 gs23 gi24 ?_
      refine a_goto 82 dX0_findAsked_64 (by decide) ?_
      exact a_lv (lv2 := [(0, .ref a0), (5, .long j5), (7, .int x7), (8, .int xs0)]) (fa_cons rfl (fa_cons rfl (fa_cons rfl (fa_cons rfl fa_nil)))) (hJ _ _ _ h)
set_option maxHeartbeats 4000000 in
set_option maxRecDepth 100000 in
noncomputable def T_X0_findAsked_82.{u} {α : Sort u} (J : Nat → List Value → Mem → α) (R : Int64 → Mem → α) (N : α) (n : Nat) (a0 : Nat) (j5 : Int64) (x7 : Int32) (x8 : Int32) (js0 : Int64) (js1 : Int64) (M : Mem) : α := if x8 = 0 then J 105 [.ref a0, .long (js1 ||| js0), .long (j5 ||| 0), .int x7, .int x8] M else gd (fO M a0 0) N (bnd (M.2.2.2.2 a0 2) N (fun r4 => gd (fA M r4 2 x7) N (J 105 [.ref a0, .long (js1 ||| js0), .long (j5 ||| (M.2.2.2.1 r4 (x7.toNatClampNeg))), .int x7, .int x8] M)))
set_option maxHeartbeats 4000000 in
set_option maxRecDepth 100000 in
theorem n_X0_findAsked_82.{u, v} {α : Sort u} {β : Sort v} (h : α → β) (J : Nat → List Value → Mem → α) (R : Int64 → Mem → α) (N : α) (n : Nat) (a0 : Nat) (j5 : Int64) (x7 : Int32) (x8 : Int32) (js0 : Int64) (js1 : Int64) (M : Mem) : h (T_X0_findAsked_82 J R N n a0 j5 x7 x8 js0 js1 M) = T_X0_findAsked_82 (fun c l M => h (J c l M)) (fun v M => h (R v M)) (h N) n a0 j5 x7 x8 js0 js1 M := by
  simp only [T_X0_findAsked_82, nat_ite h, nat_gd h, nat_bnd h, nat_bnd2 h]
set_option maxHeartbeats 4000000 in
set_option maxRecDepth 100000 in
theorem w_X0_findAsked_82 {X : Nat × (Nat → Int32)} {al : Bool} {n : Nat} {Q : Option Value → Mem → Prop} {J : Nat → List Value → Mem → Prop} (hJ : ∀ c l M, J c l M → PW_X0_findAsked X al n Q c l M) {R : Int64 → Mem → Prop} (hR : ∀ v M, R v M → Q (some (.long v)) M) {a0 : Nat} {j5 : Int64} {x7 : Int32} {x8 : Int32} {js0 : Int64} {js1 : Int64} {M : Mem} (h : T_X0_findAsked_82 J R False n a0 j5 x7 x8 js0 js1 M) : AW X (RX0, cX0_findAsked, 9, (some .long), false, al, n) 0 0 82 [(0, .ref a0), (5, .long j5), (7, .int x7), (8, .int x8)] [.long js0, .long js1] M Q := by
  unfold T_X0_findAsked_82 at h
  refine a_lor dX0_findAsked_82 ?_
  refine a_lstore_n dX0_findAsked_83 rfl (Nat.le_of_ble_eq_true rfl) (lv2 := [(3, .long (js1 ||| js0)), (0, .ref a0), (5, .long j5), (7, .int x7), (8, .int x8)]) rfl ?_
  refine a_lload dX0_findAsked_84 rfl ?_
  refine a_iload dX0_findAsked_86 rfl ?_
  refine a_if_eq 101 dX0_findAsked_88 (by decide) (fun c1 => ?_) (fun c1 => ?_)
  · replace h := ite_t c1 h
    refine a_lconst (v := 0) dX0_findAsked_101 (by decide) ?_
    refine a_lor dX0_findAsked_102 ?_
    refine a_lstore dX0_findAsked_103 (Nat.le_of_ble_eq_true rfl) (lv2 := [(5, .long (j5 ||| 0)), (3, .long (js1 ||| js0)), (0, .ref a0), (7, .int x7), (8, .int x8)]) rfl ?_
    exact a_lv (lv2 := [(0, .ref a0), (3, .long (js1 ||| js0)), (5, .long (j5 ||| 0)), (7, .int x7), (8, .int x8)]) (fa_cons rfl (fa_cons rfl (fa_cons rfl (fa_cons rfl (fa_cons rfl fa_nil))))) (hJ _ _ _ h)
  · replace h := ite_f c1 h
    refine a_aload_n dX0_findAsked_91 rfl rfl ?_
    obtain ⟨⟨ga2, gs3⟩, h⟩ := gd_t h
    obtain ⟨r4, e5, h⟩ := bnd_t h
    refine a_get (v := .ref r4) dX0_findAsked_92 fl_0_15 ga2 gs3 (gvR e5 rfl) ?_
    refine a_iload dX0_findAsked_95 rfl ?_
    obtain ⟨⟨ga6, gn7, gs8, gi9⟩, h⟩ := gd_t h
    refine a_laload dX0_findAsked_97 ga6 gs8 gi9 ?_
    refine a_goto 102 dX0_findAsked_98 (by decide) ?_
    refine a_lor dX0_findAsked_102 ?_
    refine a_lstore dX0_findAsked_103 (Nat.le_of_ble_eq_true rfl) (lv2 := [(5, .long (j5 ||| (M.2.2.2.1 r4 (x7.toNatClampNeg)))), (3, .long (js1 ||| js0)), (0, .ref a0), (7, .int x7), (8, .int x8)]) rfl ?_
    exact a_lv (lv2 := [(0, .ref a0), (3, .long (js1 ||| js0)), (5, .long (j5 ||| (M.2.2.2.1 r4 (x7.toNatClampNeg)))), (7, .int x7), (8, .int x8)]) (fa_cons rfl (fa_cons rfl (fa_cons rfl (fa_cons rfl (fa_cons rfl fa_nil))))) (hJ _ _ _ h)
set_option maxHeartbeats 4000000 in
set_option maxRecDepth 100000 in
noncomputable def T_X0_findAsked_105.{u} {α : Sort u} (J : Nat → List Value → Mem → α) (R : Int64 → Mem → α) (N : α) (n : Nat) (a0 : Nat) (j3 : Int64) (j5 : Int64) (x7 : Int32) (x8 : Int32) (M : Mem) : α := if (lg_cmp ((lushr j5 x7) &&& 1) 0) = 0 then J 16 [.ref a0, .long j3, .long j5, .int (x7 + (-1))] M else if x8 = 0 then gd (fO M a0 0) N (bnd (M.2.2.2.2 a0 2) N (fun r5 => gd (fA M r5 2 x7) N (bnd (M.2.2.2.2 a0 3) N (fun r11 => gd (fA M r11 2 x7) N (J 149 [.ref a0, .long j3, .int x7, .int x8, .long ((M.2.2.2.1 r5 (x7.toNatClampNeg)) ||| (M.2.2.2.1 r11 (x7.toNatClampNeg))), .long j5] M))))) else gd (fO M a0 0) N (bnd (M.2.2.2.2 a0 3) N (fun r19 => gd (fA M r19 2 x7) N (J 149 [.ref a0, .long j3, .int x7, .int x8, .long (M.2.2.2.1 r19 (x7.toNatClampNeg)), .long j5] M)))
set_option maxHeartbeats 4000000 in
set_option maxRecDepth 100000 in
theorem n_X0_findAsked_105.{u, v} {α : Sort u} {β : Sort v} (h : α → β) (J : Nat → List Value → Mem → α) (R : Int64 → Mem → α) (N : α) (n : Nat) (a0 : Nat) (j3 : Int64) (j5 : Int64) (x7 : Int32) (x8 : Int32) (M : Mem) : h (T_X0_findAsked_105 J R N n a0 j3 j5 x7 x8 M) = T_X0_findAsked_105 (fun c l M => h (J c l M)) (fun v M => h (R v M)) (h N) n a0 j3 j5 x7 x8 M := by
  simp only [T_X0_findAsked_105, nat_ite h, nat_gd h, nat_bnd h, nat_bnd2 h]
set_option maxHeartbeats 4000000 in
set_option maxRecDepth 100000 in
theorem w_X0_findAsked_105 {X : Nat × (Nat → Int32)} {al : Bool} {n : Nat} {Q : Option Value → Mem → Prop} {J : Nat → List Value → Mem → Prop} (hJ : ∀ c l M, J c l M → PW_X0_findAsked X al n Q c l M) {R : Int64 → Mem → Prop} (hR : ∀ v M, R v M → Q (some (.long v)) M) {a0 : Nat} {j3 : Int64} {j5 : Int64} {x7 : Int32} {x8 : Int32} {M : Mem} (h : T_X0_findAsked_105 J R False n a0 j3 j5 x7 x8 M) : AW X (RX0, cX0_findAsked, 9, (some .long), false, al, n) 0 0 105 [(0, .ref a0), (3, .long j3), (5, .long j5), (7, .int x7), (8, .int x8)] [] M Q := by
  unfold T_X0_findAsked_105 at h
  refine a_lload dX0_findAsked_105 rfl ?_
  refine a_iload dX0_findAsked_107 rfl ?_
  refine a_lushr dX0_findAsked_109 ?_
  refine a_lconst (v := 1) dX0_findAsked_110 (by decide) ?_
  refine a_land dX0_findAsked_111 ?_
  refine a_lconst (v := 0) dX0_findAsked_112 (by decide) ?_
  refine a_lcmp dX0_findAsked_113 ?_
  refine a_if_eq 171 dX0_findAsked_114 (by decide) (fun c1 => ?_) (fun c1 => ?_)
  · replace h := ite_t c1 h
    refine a_iinc (v := (x7 + (-1))) dX0_findAsked_171 rfl (by first | rfl | decide) (Nat.le_of_ble_eq_true rfl) (lv2 := [(7, .int (x7 + (-1))), (0, .ref a0), (3, .long j3), (5, .long j5), (8, .int x8)]) rfl ?_
    refine a_goto 16 dX0_findAsked_174 (by decide) ?_
    exact a_lv (lv2 := [(0, .ref a0), (3, .long j3), (5, .long j5), (7, .int (x7 + (-1)))]) (fa_cons rfl (fa_cons rfl (fa_cons rfl (fa_cons rfl fa_nil)))) (hJ _ _ _ h)
  · replace h := ite_f c1 h
    refine a_lload dX0_findAsked_117 rfl ?_
    refine a_iload dX0_findAsked_119 rfl ?_
    refine a_if_eq 134 dX0_findAsked_121 (by decide) (fun c2 => ?_) (fun c2 => ?_)
    · replace h := ite_t c2 h
      refine a_aload_n dX0_findAsked_134 rfl rfl ?_
      obtain ⟨⟨ga3, gs4⟩, h⟩ := gd_t h
      obtain ⟨r5, e6, h⟩ := bnd_t h
      refine a_get (v := .ref r5) dX0_findAsked_135 fl_0_15 ga3 gs4 (gvR e6 rfl) ?_
      refine a_iload dX0_findAsked_138 rfl ?_
      obtain ⟨⟨ga7, gn8, gs9, gi10⟩, h⟩ := gd_t h
      refine a_laload dX0_findAsked_140 ga7 gs9 gi10 ?_
      refine a_aload_n dX0_findAsked_141 rfl rfl ?_
      obtain ⟨r11, e12, h⟩ := bnd_t h
      refine a_get (v := .ref r11) dX0_findAsked_142 fl_0_19 ga3 gs4 (gvR e12 rfl) ?_
      refine a_iload dX0_findAsked_145 rfl ?_
      obtain ⟨⟨ga13, gn14, gs15, gi16⟩, h⟩ := gd_t h
      refine a_laload dX0_findAsked_147 ga13 gs15 gi16 ?_
      refine a_lor dX0_findAsked_148 ?_
      exact a_lv (lv2 := [(0, .ref a0), (3, .long j3), (7, .int x7), (8, .int x8)]) (fa_cons rfl (fa_cons rfl (fa_cons rfl (fa_cons rfl fa_nil)))) (hJ _ _ _ h)
    · replace h := ite_f c2 h
      refine a_aload_n dX0_findAsked_124 rfl rfl ?_
      obtain ⟨⟨ga17, gs18⟩, h⟩ := gd_t h
      obtain ⟨r19, e20, h⟩ := bnd_t h
      refine a_get (v := .ref r19) dX0_findAsked_125 fl_0_19 ga17 gs18 (gvR e20 rfl) ?_
      refine a_iload dX0_findAsked_128 rfl ?_
      obtain ⟨⟨ga21, gn22, gs23, gi24⟩, h⟩ := gd_t h
      refine a_laload dX0_findAsked_130 ga21 gs23 gi24 ?_
      refine a_goto 149 dX0_findAsked_131 (by decide) ?_
      exact a_lv (lv2 := [(0, .ref a0), (3, .long j3), (7, .int x7), (8, .int x8)]) (fa_cons rfl (fa_cons rfl (fa_cons rfl (fa_cons rfl fa_nil)))) (hJ _ _ _ h)
set_option maxHeartbeats 4000000 in
set_option maxRecDepth 100000 in
noncomputable def T_X0_findAsked_149.{u} {α : Sort u} (J : Nat → List Value → Mem → α) (R : Int64 → Mem → α) (N : α) (n : Nat) (a0 : Nat) (j3 : Int64) (x7 : Int32) (x8 : Int32) (js0 : Int64) (js1 : Int64) (M : Mem) : α := if x8 = 0 then J 16 [.ref a0, .long (j3 ||| 0), .long (js1 ||| js0), .int (x7 + (-1))] M else gd (fO M a0 0) N (bnd (M.2.2.2.2 a0 2) N (fun r4 => gd (fA M r4 2 x7) N (J 16 [.ref a0, .long (j3 ||| (M.2.2.2.1 r4 (x7.toNatClampNeg))), .long (js1 ||| js0), .int (x7 + (-1))] M)))
set_option maxHeartbeats 4000000 in
set_option maxRecDepth 100000 in
theorem n_X0_findAsked_149.{u, v} {α : Sort u} {β : Sort v} (h : α → β) (J : Nat → List Value → Mem → α) (R : Int64 → Mem → α) (N : α) (n : Nat) (a0 : Nat) (j3 : Int64) (x7 : Int32) (x8 : Int32) (js0 : Int64) (js1 : Int64) (M : Mem) : h (T_X0_findAsked_149 J R N n a0 j3 x7 x8 js0 js1 M) = T_X0_findAsked_149 (fun c l M => h (J c l M)) (fun v M => h (R v M)) (h N) n a0 j3 x7 x8 js0 js1 M := by
  simp only [T_X0_findAsked_149, nat_ite h, nat_gd h, nat_bnd h, nat_bnd2 h]
set_option maxHeartbeats 4000000 in
set_option maxRecDepth 100000 in
theorem w_X0_findAsked_149 {X : Nat × (Nat → Int32)} {al : Bool} {n : Nat} {Q : Option Value → Mem → Prop} {J : Nat → List Value → Mem → Prop} (hJ : ∀ c l M, J c l M → PW_X0_findAsked X al n Q c l M) {R : Int64 → Mem → Prop} (hR : ∀ v M, R v M → Q (some (.long v)) M) {a0 : Nat} {j3 : Int64} {x7 : Int32} {x8 : Int32} {js0 : Int64} {js1 : Int64} {M : Mem} (h : T_X0_findAsked_149 J R False n a0 j3 x7 x8 js0 js1 M) : AW X (RX0, cX0_findAsked, 9, (some .long), false, al, n) 0 0 149 [(0, .ref a0), (3, .long j3), (7, .int x7), (8, .int x8)] [.long js0, .long js1] M Q := by
  unfold T_X0_findAsked_149 at h
  refine a_lor dX0_findAsked_149 ?_
  refine a_lstore dX0_findAsked_150 (Nat.le_of_ble_eq_true rfl) (lv2 := [(5, .long (js1 ||| js0)), (0, .ref a0), (3, .long j3), (7, .int x7), (8, .int x8)]) rfl ?_
  refine a_lload_n dX0_findAsked_152 rfl rfl ?_
  refine a_iload dX0_findAsked_153 rfl ?_
  refine a_if_eq 168 dX0_findAsked_155 (by decide) (fun c1 => ?_) (fun c1 => ?_)
  · replace h := ite_t c1 h
    refine a_lconst (v := 0) dX0_findAsked_168 (by decide) ?_
    refine a_lor dX0_findAsked_169 ?_
    refine a_lstore_n dX0_findAsked_170 rfl (Nat.le_of_ble_eq_true rfl) (lv2 := [(3, .long (j3 ||| 0)), (5, .long (js1 ||| js0)), (0, .ref a0), (7, .int x7), (8, .int x8)]) rfl ?_
    refine a_iinc (v := (x7 + (-1))) dX0_findAsked_171 rfl (by first | rfl | decide) (Nat.le_of_ble_eq_true rfl) (lv2 := [(7, .int (x7 + (-1))), (3, .long (j3 ||| 0)), (5, .long (js1 ||| js0)), (0, .ref a0), (8, .int x8)]) rfl ?_
    refine a_goto 16 dX0_findAsked_174 (by decide) ?_
    exact a_lv (lv2 := [(0, .ref a0), (3, .long (j3 ||| 0)), (5, .long (js1 ||| js0)), (7, .int (x7 + (-1)))]) (fa_cons rfl (fa_cons rfl (fa_cons rfl (fa_cons rfl fa_nil)))) (hJ _ _ _ h)
  · replace h := ite_f c1 h
    refine a_aload_n dX0_findAsked_158 rfl rfl ?_
    obtain ⟨⟨ga2, gs3⟩, h⟩ := gd_t h
    obtain ⟨r4, e5, h⟩ := bnd_t h
    refine a_get (v := .ref r4) dX0_findAsked_159 fl_0_15 ga2 gs3 (gvR e5 rfl) ?_
    refine a_iload dX0_findAsked_162 rfl ?_
    obtain ⟨⟨ga6, gn7, gs8, gi9⟩, h⟩ := gd_t h
    refine a_laload dX0_findAsked_164 ga6 gs8 gi9 ?_
    refine a_goto 169 dX0_findAsked_165 (by decide) ?_
    refine a_lor dX0_findAsked_169 ?_
    refine a_lstore_n dX0_findAsked_170 rfl (Nat.le_of_ble_eq_true rfl) (lv2 := [(3, .long (j3 ||| (M.2.2.2.1 r4 (x7.toNatClampNeg)))), (5, .long (js1 ||| js0)), (0, .ref a0), (7, .int x7), (8, .int x8)]) rfl ?_
    refine a_iinc (v := (x7 + (-1))) dX0_findAsked_171 rfl (by first | rfl | decide) (Nat.le_of_ble_eq_true rfl) (lv2 := [(7, .int (x7 + (-1))), (3, .long (j3 ||| (M.2.2.2.1 r4 (x7.toNatClampNeg)))), (5, .long (js1 ||| js0)), (0, .ref a0), (8, .int x8)]) rfl ?_
    refine a_goto 16 dX0_findAsked_174 (by decide) ?_
    exact a_lv (lv2 := [(0, .ref a0), (3, .long (j3 ||| (M.2.2.2.1 r4 (x7.toNatClampNeg)))), (5, .long (js1 ||| js0)), (7, .int (x7 + (-1)))]) (fa_cons rfl (fa_cons rfl (fa_cons rfl (fa_cons rfl fa_nil)))) (hJ _ _ _ h)
set_option maxHeartbeats 4000000 in
set_option maxRecDepth 100000 in
noncomputable def st_X0_findAsked (n : Nat) (s : Sg) : Option (Sg ⊕ (Int64 × Mem)) := if s.1 = 0 then vR s.2.1 none (fun a0 t => vJ t none (fun j1 t => vE t none (T_X0_findAsked_0 (fun c l M => some (.inl (c, l, M))) (fun v M => some (.inr (v, M))) none n a0 j1 s.2.2))) else if s.1 = 16 then vR s.2.1 none (fun a0 t => vJ t none (fun j3 t => vJ t none (fun j5 t => vI t none (fun x7 t => vE t none (T_X0_findAsked_16 (fun c l M => some (.inl (c, l, M))) (fun v M => some (.inr (v, M))) none n a0 j3 j5 x7 s.2.2))))) else if s.1 = 38 then vR s.2.1 none (fun a0 t => vJ t none (fun j3 t => vJ t none (fun j5 t => vI t none (fun x7 t => vI t none (fun xs0 t => vE t none (T_X0_findAsked_38 (fun c l M => some (.inl (c, l, M))) (fun v M => some (.inr (v, M))) none n a0 j3 j5 x7 xs0 s.2.2)))))) else if s.1 = 82 then vR s.2.1 none (fun a0 t => vJ t none (fun j5 t => vI t none (fun x7 t => vI t none (fun x8 t => vJ t none (fun js0 t => vJ t none (fun js1 t => vE t none (T_X0_findAsked_82 (fun c l M => some (.inl (c, l, M))) (fun v M => some (.inr (v, M))) none n a0 j5 x7 x8 js0 js1 s.2.2))))))) else if s.1 = 105 then vR s.2.1 none (fun a0 t => vJ t none (fun j3 t => vJ t none (fun j5 t => vI t none (fun x7 t => vI t none (fun x8 t => vE t none (T_X0_findAsked_105 (fun c l M => some (.inl (c, l, M))) (fun v M => some (.inr (v, M))) none n a0 j3 j5 x7 x8 s.2.2)))))) else if s.1 = 149 then vR s.2.1 none (fun a0 t => vJ t none (fun j3 t => vI t none (fun x7 t => vI t none (fun x8 t => vJ t none (fun js0 t => vJ t none (fun js1 t => vE t none (T_X0_findAsked_149 (fun c l M => some (.inl (c, l, M))) (fun v M => some (.inr (v, M))) none n a0 j3 x7 x8 js0 js1 s.2.2))))))) else none
noncomputable abbrev g_X0_findAsked_0 (n : Nat) (a0 : Nat) (j1 : Int64) (M : Mem) : Option (Int64 × Mem) := lp (st_X0_findAsked n) (0, [.ref a0, .long j1], M)
set_option maxHeartbeats 4000000 in
set_option maxRecDepth 100000 in
theorem ge_X0_findAsked_0 (n : Nat) (a0 : Nat) (j1 : Int64) (M : Mem) : g_X0_findAsked_0 n a0 j1 M = T_X0_findAsked_0 (fun c l M => lp (st_X0_findAsked n) (c, l, M)) (fun v M => some (v, M)) none n a0 j1 M := (lp_eq _ _).trans (n_X0_findAsked_0 (lpK (st_X0_findAsked n)) (fun c l M => some (.inl (c, l, M))) (fun v M => some (.inr (v, M))) none n a0 j1 M)
noncomputable abbrev g_X0_findAsked_16 (n : Nat) (a0 : Nat) (j3 : Int64) (j5 : Int64) (x7 : Int32) (M : Mem) : Option (Int64 × Mem) := lp (st_X0_findAsked n) (16, [.ref a0, .long j3, .long j5, .int x7], M)
set_option maxHeartbeats 4000000 in
set_option maxRecDepth 100000 in
theorem ge_X0_findAsked_16 (n : Nat) (a0 : Nat) (j3 : Int64) (j5 : Int64) (x7 : Int32) (M : Mem) : g_X0_findAsked_16 n a0 j3 j5 x7 M = T_X0_findAsked_16 (fun c l M => lp (st_X0_findAsked n) (c, l, M)) (fun v M => some (v, M)) none n a0 j3 j5 x7 M := (lp_eq _ _).trans (n_X0_findAsked_16 (lpK (st_X0_findAsked n)) (fun c l M => some (.inl (c, l, M))) (fun v M => some (.inr (v, M))) none n a0 j3 j5 x7 M)
noncomputable abbrev g_X0_findAsked_38 (n : Nat) (a0 : Nat) (j3 : Int64) (j5 : Int64) (x7 : Int32) (xs0 : Int32) (M : Mem) : Option (Int64 × Mem) := lp (st_X0_findAsked n) (38, [.ref a0, .long j3, .long j5, .int x7, .int xs0], M)
set_option maxHeartbeats 4000000 in
set_option maxRecDepth 100000 in
theorem ge_X0_findAsked_38 (n : Nat) (a0 : Nat) (j3 : Int64) (j5 : Int64) (x7 : Int32) (xs0 : Int32) (M : Mem) : g_X0_findAsked_38 n a0 j3 j5 x7 xs0 M = T_X0_findAsked_38 (fun c l M => lp (st_X0_findAsked n) (c, l, M)) (fun v M => some (v, M)) none n a0 j3 j5 x7 xs0 M := (lp_eq _ _).trans (n_X0_findAsked_38 (lpK (st_X0_findAsked n)) (fun c l M => some (.inl (c, l, M))) (fun v M => some (.inr (v, M))) none n a0 j3 j5 x7 xs0 M)
noncomputable abbrev g_X0_findAsked_82 (n : Nat) (a0 : Nat) (j5 : Int64) (x7 : Int32) (x8 : Int32) (js0 : Int64) (js1 : Int64) (M : Mem) : Option (Int64 × Mem) := lp (st_X0_findAsked n) (82, [.ref a0, .long j5, .int x7, .int x8, .long js0, .long js1], M)
set_option maxHeartbeats 4000000 in
set_option maxRecDepth 100000 in
theorem ge_X0_findAsked_82 (n : Nat) (a0 : Nat) (j5 : Int64) (x7 : Int32) (x8 : Int32) (js0 : Int64) (js1 : Int64) (M : Mem) : g_X0_findAsked_82 n a0 j5 x7 x8 js0 js1 M = T_X0_findAsked_82 (fun c l M => lp (st_X0_findAsked n) (c, l, M)) (fun v M => some (v, M)) none n a0 j5 x7 x8 js0 js1 M := (lp_eq _ _).trans (n_X0_findAsked_82 (lpK (st_X0_findAsked n)) (fun c l M => some (.inl (c, l, M))) (fun v M => some (.inr (v, M))) none n a0 j5 x7 x8 js0 js1 M)
noncomputable abbrev g_X0_findAsked_105 (n : Nat) (a0 : Nat) (j3 : Int64) (j5 : Int64) (x7 : Int32) (x8 : Int32) (M : Mem) : Option (Int64 × Mem) := lp (st_X0_findAsked n) (105, [.ref a0, .long j3, .long j5, .int x7, .int x8], M)
set_option maxHeartbeats 4000000 in
set_option maxRecDepth 100000 in
theorem ge_X0_findAsked_105 (n : Nat) (a0 : Nat) (j3 : Int64) (j5 : Int64) (x7 : Int32) (x8 : Int32) (M : Mem) : g_X0_findAsked_105 n a0 j3 j5 x7 x8 M = T_X0_findAsked_105 (fun c l M => lp (st_X0_findAsked n) (c, l, M)) (fun v M => some (v, M)) none n a0 j3 j5 x7 x8 M := (lp_eq _ _).trans (n_X0_findAsked_105 (lpK (st_X0_findAsked n)) (fun c l M => some (.inl (c, l, M))) (fun v M => some (.inr (v, M))) none n a0 j3 j5 x7 x8 M)
noncomputable abbrev g_X0_findAsked_149 (n : Nat) (a0 : Nat) (j3 : Int64) (x7 : Int32) (x8 : Int32) (js0 : Int64) (js1 : Int64) (M : Mem) : Option (Int64 × Mem) := lp (st_X0_findAsked n) (149, [.ref a0, .long j3, .int x7, .int x8, .long js0, .long js1], M)
set_option maxHeartbeats 4000000 in
set_option maxRecDepth 100000 in
theorem ge_X0_findAsked_149 (n : Nat) (a0 : Nat) (j3 : Int64) (x7 : Int32) (x8 : Int32) (js0 : Int64) (js1 : Int64) (M : Mem) : g_X0_findAsked_149 n a0 j3 x7 x8 js0 js1 M = T_X0_findAsked_149 (fun c l M => lp (st_X0_findAsked n) (c, l, M)) (fun v M => some (v, M)) none n a0 j3 x7 x8 js0 js1 M := (lp_eq _ _).trans (n_X0_findAsked_149 (lpK (st_X0_findAsked n)) (fun c l M => some (.inl (c, l, M))) (fun v M => some (.inr (v, M))) none n a0 j3 x7 x8 js0 js1 M)
noncomputable def b_X0_findAsked (n : Nat) (a0 : Nat) (j1 : Int64) (M : Mem) : Option (Int64 × Mem) := g_X0_findAsked_0 n a0 j1 M
set_option maxHeartbeats 4000000 in
set_option maxRecDepth 100000 in
theorem sb_X0_findAsked {X : Nat × (Nat → Int32)} {al : Bool} {n : Nat} {a0 : Nat} {j1 : Int64} {M : Mem} {v : Int64} {M1 : Mem} (h : b_X0_findAsked n a0 j1 M = some (v, M1)) : AE yX0_findAsked cX0_findAsked 9 (some .long) al n X [.ref a0, .long j1] M (some (.long v)) M1 := by
  refine AM.of false (by decide +kernel) (by intro h; cases h) (Nat.le_of_ble_eq_true rfl) ?_
  refine lp_snd (P := fun s r => PW_X0_findAsked X al n (fun v M2 => v = (some (.long r.1)) ∧ M2 = r.2) s.1 s.2.1 s.2.2) ?_ h
  clear h
  rintro ⟨c, l, M⟩ r h
  unfold st_X0_findAsked at h
  rcases ite_p h with ⟨e, h⟩ | ⟨e, h⟩
  · replace e : c = 0 := e
    subst e
    obtain ⟨a0, tt0, e, h⟩ := vR_p id h
    replace e : l = _ := e
    subst e
    obtain ⟨j1, tt1, e, h⟩ := vJ_p id h
    replace e : tt0 = _ := e
    subst e
    obtain ⟨e, h⟩ := vE_p id h
    replace e : tt1 = [] := e
    subst e
    exact w_X0_findAsked_0 (J := fun c l M => PW_X0_findAsked X al n (fun v M2 => v = (some (.long r.1)) ∧ M2 = r.2) c l M) (R := fun v M => (v, M) = r) (fun _ _ _ h => h) (fun v M h => by cases h; exact ⟨rfl, rfl⟩) ((n_X0_findAsked_0 (lpP (fun (s : Sg) (r : Int64 × Mem) => PW_X0_findAsked X al n (fun v M2 => v = (some (.long r.1)) ∧ M2 = r.2) s.1 s.2.1 s.2.2) r) (fun c l M => some (.inl (c, l, M))) (fun v M => some (.inr (v, M))) none n a0 j1 M).mp h)
  rcases ite_p h with ⟨e, h⟩ | ⟨e, h⟩
  · replace e : c = 16 := e
    subst e
    obtain ⟨a0, tt0, e, h⟩ := vR_p id h
    replace e : l = _ := e
    subst e
    obtain ⟨j3, tt1, e, h⟩ := vJ_p id h
    replace e : tt0 = _ := e
    subst e
    obtain ⟨j5, tt2, e, h⟩ := vJ_p id h
    replace e : tt1 = _ := e
    subst e
    obtain ⟨x7, tt3, e, h⟩ := vI_p id h
    replace e : tt2 = _ := e
    subst e
    obtain ⟨e, h⟩ := vE_p id h
    replace e : tt3 = [] := e
    subst e
    exact w_X0_findAsked_16 (J := fun c l M => PW_X0_findAsked X al n (fun v M2 => v = (some (.long r.1)) ∧ M2 = r.2) c l M) (R := fun v M => (v, M) = r) (fun _ _ _ h => h) (fun v M h => by cases h; exact ⟨rfl, rfl⟩) ((n_X0_findAsked_16 (lpP (fun (s : Sg) (r : Int64 × Mem) => PW_X0_findAsked X al n (fun v M2 => v = (some (.long r.1)) ∧ M2 = r.2) s.1 s.2.1 s.2.2) r) (fun c l M => some (.inl (c, l, M))) (fun v M => some (.inr (v, M))) none n a0 j3 j5 x7 M).mp h)
  rcases ite_p h with ⟨e, h⟩ | ⟨e, h⟩
  · replace e : c = 38 := e
    subst e
    obtain ⟨a0, tt0, e, h⟩ := vR_p id h
    replace e : l = _ := e
    subst e
    obtain ⟨j3, tt1, e, h⟩ := vJ_p id h
    replace e : tt0 = _ := e
    subst e
    obtain ⟨j5, tt2, e, h⟩ := vJ_p id h
    replace e : tt1 = _ := e
    subst e
    obtain ⟨x7, tt3, e, h⟩ := vI_p id h
    replace e : tt2 = _ := e
    subst e
    obtain ⟨xs0, tt4, e, h⟩ := vI_p id h
    replace e : tt3 = _ := e
    subst e
    obtain ⟨e, h⟩ := vE_p id h
    replace e : tt4 = [] := e
    subst e
    exact w_X0_findAsked_38 (J := fun c l M => PW_X0_findAsked X al n (fun v M2 => v = (some (.long r.1)) ∧ M2 = r.2) c l M) (R := fun v M => (v, M) = r) (fun _ _ _ h => h) (fun v M h => by cases h; exact ⟨rfl, rfl⟩) ((n_X0_findAsked_38 (lpP (fun (s : Sg) (r : Int64 × Mem) => PW_X0_findAsked X al n (fun v M2 => v = (some (.long r.1)) ∧ M2 = r.2) s.1 s.2.1 s.2.2) r) (fun c l M => some (.inl (c, l, M))) (fun v M => some (.inr (v, M))) none n a0 j3 j5 x7 xs0 M).mp h)
  rcases ite_p h with ⟨e, h⟩ | ⟨e, h⟩
  · replace e : c = 82 := e
    subst e
    obtain ⟨a0, tt0, e, h⟩ := vR_p id h
    replace e : l = _ := e
    subst e
    obtain ⟨j5, tt1, e, h⟩ := vJ_p id h
    replace e : tt0 = _ := e
    subst e
    obtain ⟨x7, tt2, e, h⟩ := vI_p id h
    replace e : tt1 = _ := e
    subst e
    obtain ⟨x8, tt3, e, h⟩ := vI_p id h
    replace e : tt2 = _ := e
    subst e
    obtain ⟨js0, tt4, e, h⟩ := vJ_p id h
    replace e : tt3 = _ := e
    subst e
    obtain ⟨js1, tt5, e, h⟩ := vJ_p id h
    replace e : tt4 = _ := e
    subst e
    obtain ⟨e, h⟩ := vE_p id h
    replace e : tt5 = [] := e
    subst e
    exact w_X0_findAsked_82 (J := fun c l M => PW_X0_findAsked X al n (fun v M2 => v = (some (.long r.1)) ∧ M2 = r.2) c l M) (R := fun v M => (v, M) = r) (fun _ _ _ h => h) (fun v M h => by cases h; exact ⟨rfl, rfl⟩) ((n_X0_findAsked_82 (lpP (fun (s : Sg) (r : Int64 × Mem) => PW_X0_findAsked X al n (fun v M2 => v = (some (.long r.1)) ∧ M2 = r.2) s.1 s.2.1 s.2.2) r) (fun c l M => some (.inl (c, l, M))) (fun v M => some (.inr (v, M))) none n a0 j5 x7 x8 js0 js1 M).mp h)
  rcases ite_p h with ⟨e, h⟩ | ⟨e, h⟩
  · replace e : c = 105 := e
    subst e
    obtain ⟨a0, tt0, e, h⟩ := vR_p id h
    replace e : l = _ := e
    subst e
    obtain ⟨j3, tt1, e, h⟩ := vJ_p id h
    replace e : tt0 = _ := e
    subst e
    obtain ⟨j5, tt2, e, h⟩ := vJ_p id h
    replace e : tt1 = _ := e
    subst e
    obtain ⟨x7, tt3, e, h⟩ := vI_p id h
    replace e : tt2 = _ := e
    subst e
    obtain ⟨x8, tt4, e, h⟩ := vI_p id h
    replace e : tt3 = _ := e
    subst e
    obtain ⟨e, h⟩ := vE_p id h
    replace e : tt4 = [] := e
    subst e
    exact w_X0_findAsked_105 (J := fun c l M => PW_X0_findAsked X al n (fun v M2 => v = (some (.long r.1)) ∧ M2 = r.2) c l M) (R := fun v M => (v, M) = r) (fun _ _ _ h => h) (fun v M h => by cases h; exact ⟨rfl, rfl⟩) ((n_X0_findAsked_105 (lpP (fun (s : Sg) (r : Int64 × Mem) => PW_X0_findAsked X al n (fun v M2 => v = (some (.long r.1)) ∧ M2 = r.2) s.1 s.2.1 s.2.2) r) (fun c l M => some (.inl (c, l, M))) (fun v M => some (.inr (v, M))) none n a0 j3 j5 x7 x8 M).mp h)
  rcases ite_p h with ⟨e, h⟩ | ⟨e, h⟩
  · replace e : c = 149 := e
    subst e
    obtain ⟨a0, tt0, e, h⟩ := vR_p id h
    replace e : l = _ := e
    subst e
    obtain ⟨j3, tt1, e, h⟩ := vJ_p id h
    replace e : tt0 = _ := e
    subst e
    obtain ⟨x7, tt2, e, h⟩ := vI_p id h
    replace e : tt1 = _ := e
    subst e
    obtain ⟨x8, tt3, e, h⟩ := vI_p id h
    replace e : tt2 = _ := e
    subst e
    obtain ⟨js0, tt4, e, h⟩ := vJ_p id h
    replace e : tt3 = _ := e
    subst e
    obtain ⟨js1, tt5, e, h⟩ := vJ_p id h
    replace e : tt4 = _ := e
    subst e
    obtain ⟨e, h⟩ := vE_p id h
    replace e : tt5 = [] := e
    subst e
    exact w_X0_findAsked_149 (J := fun c l M => PW_X0_findAsked X al n (fun v M2 => v = (some (.long r.1)) ∧ M2 = r.2) c l M) (R := fun v M => (v, M) = r) (fun _ _ _ h => h) (fun v M h => by cases h; exact ⟨rfl, rfl⟩) ((n_X0_findAsked_149 (lpP (fun (s : Sg) (r : Int64 × Mem) => PW_X0_findAsked X al n (fun v M2 => v = (some (.long r.1)) ∧ M2 = r.2) s.1 s.2.1 s.2.2) r) (fun c l M => some (.inl (c, l, M))) (fun v M => some (.inr (v, M))) none n a0 j3 x7 x8 js0 js1 M).mp h)
  · exact h.elim

noncomputable abbrev f_X0_findAsked := b_X0_findAsked
theorem s_X0_findAsked {X : Nat × (Nat → Int32)} {al : Bool} {n : Nat} {a0 : Nat} {j1 : Int64} {M : Mem} {v : Int64} {M1 : Mem} (h : f_X0_findAsked n a0 j1 M = some (v, M1)) : AE yX0_findAsked cX0_findAsked 9 (some .long) al n X [.ref a0, .long j1] M (some (.long v)) M1 := sb_X0_findAsked h
