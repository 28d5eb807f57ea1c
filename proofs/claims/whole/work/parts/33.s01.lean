/-! METHODS AS FUNCTIONS, written by wip/gen/shallow.py -/
set_option maxHeartbeats 4000000 in
set_option maxRecDepth 100000 in
noncomputable def T_X6_wordLetters_0.{u} {α : Sort u} (R : Int32 → Mem → α) (N : α) (n : Nat) (a0 : Nat) (M : Mem) : α := gd (fO M a0 6) N (R ((M.2.2.1 a0 11) - (M.2.2.1 a0 12)) M)
set_option maxHeartbeats 4000000 in
set_option maxRecDepth 100000 in
theorem n_X6_wordLetters_0.{u, v} {α : Sort u} {β : Sort v} (h : α → β) (R : Int32 → Mem → α) (N : α) (n : Nat) (a0 : Nat) (M : Mem) : h (T_X6_wordLetters_0 R N n a0 M) = T_X6_wordLetters_0 (fun v M => h (R v M)) (h N) n a0 M := by
  simp only [T_X6_wordLetters_0, nat_ite h, nat_gd h, nat_bnd h, nat_bnd2 h]
set_option maxHeartbeats 4000000 in
set_option maxRecDepth 100000 in
theorem w_X6_wordLetters_0 {X : Nat × (Nat → Int32)} {al : Bool} {n : Nat} {Q : Option Value → Mem → Prop} {R : Int32 → Mem → Prop} (hR : ∀ v M, R v M → Q (some (.int v)) M) {a0 : Nat} {M : Mem} (h : T_X6_wordLetters_0 R False n a0 M) : AW X (RX6, cX6_wordLetters, 1, (some .int), false, al, n) 0 0 0 [(0, .ref a0)] [] M Q := by
  unfold T_X6_wordLetters_0 at h
  refine a_aload_n dX6_wordLetters_0 rfl rfl ?_
  obtain ⟨⟨ga1, gs2⟩, h⟩ := gd_t h
  refine a_get (v := .int (M.2.2.1 a0 11)) dX6_wordLetters_1 fl_6_62 ga1 gs2 rfl ?_
  refine a_aload_n dX6_wordLetters_4 rfl rfl ?_
  refine a_get (v := .int (M.2.2.1 a0 12)) dX6_wordLetters_5 fl_6_68 ga1 gs2 rfl ?_
  refine a_isub dX6_wordLetters_8 ?_
  exact a_iret dX6_wordLetters_9 rfl (hR _ _ h)
noncomputable def b_X6_wordLetters (n : Nat) (a0 : Nat) (M : Mem) : Option (Int32 × Mem) := T_X6_wordLetters_0 (fun v M => some (v, M)) none n a0 M
set_option maxHeartbeats 4000000 in
set_option maxRecDepth 100000 in
theorem sb_X6_wordLetters {X : Nat × (Nat → Int32)} {al : Bool} {n : Nat} {a0 : Nat} {M : Mem} {v : Int32} {M1 : Mem} (h : b_X6_wordLetters n a0 M = some (v, M1)) : AE yX6_wordLetters cX6_wordLetters 1 (some .int) al n X [.ref a0] M (some (.int v)) M1 := by
  refine AM.of false (by decide +kernel) (by intro h; cases h) (Nat.le_of_ble_eq_true rfl) ?_
  have h2 : T_X6_wordLetters_0 (fun v2 M2 => some (v2, M2) = some (v, M1)) (none = some (v, M1)) n a0 M := (n_X6_wordLetters_0 (fun o => o = some (v, M1)) (fun v M => some (v, M)) none n a0 M).mp h
  have h3 : ((none : Option (Int32 × Mem)) = some (v, M1)) = False := eq_false (by intro q; cases q)
  rw [h3] at h2
  exact w_X6_wordLetters_0 (fun v2 M2 h => by cases h; exact ⟨rfl, rfl⟩) h2

noncomputable abbrev f_X6_wordLetters := b_X6_wordLetters
theorem s_X6_wordLetters {X : Nat × (Nat → Int32)} {al : Bool} {n : Nat} {a0 : Nat} {M : Mem} {v : Int32} {M1 : Mem} (h : f_X6_wordLetters n a0 M = some (v, M1)) : AE yX6_wordLetters cX6_wordLetters 1 (some .int) al n X [.ref a0] M (some (.int v)) M1 := sb_X6_wordLetters h
set_option maxHeartbeats 4000000 in
set_option maxRecDepth 100000 in
noncomputable def T_X6_atName_0.{u} {α : Sort u} (R : Int32 → Mem → α) (N : α) (n : Nat) (a0 : Nat) (M : Mem) : α := gd (fO M a0 6) N (if (M.2.2.1 a0 13) < (-1) then R 0 M else if 7 < (M.2.2.1 a0 13) then R 0 M else bnd2 (cal n (fun n => f_X6_wordLetters n a0 M)) N (fun v5 M6 => if 4 < v5 then R 0 M6 else R 1 M6))
set_option maxHeartbeats 4000000 in
set_option maxRecDepth 100000 in
theorem n_X6_atName_0.{u, v} {α : Sort u} {β : Sort v} (h : α → β) (R : Int32 → Mem → α) (N : α) (n : Nat) (a0 : Nat) (M : Mem) : h (T_X6_atName_0 R N n a0 M) = T_X6_atName_0 (fun v M => h (R v M)) (h N) n a0 M := by
  simp only [T_X6_atName_0, nat_ite h, nat_gd h, nat_bnd h, nat_bnd2 h]
set_option maxHeartbeats 4000000 in
set_option maxRecDepth 100000 in
theorem w_X6_atName_0 {X : Nat × (Nat → Int32)} {al : Bool} {n : Nat} {Q : Option Value → Mem → Prop} {R : Int32 → Mem → Prop} (hR : ∀ v M, R v M → Q (some (.int v)) M) {a0 : Nat} {M : Mem} (h : T_X6_atName_0 R False n a0 M) : AW X (RX6, cX6_atName, 1, (some .boolean), false, al, n) 0 0 0 [(0, .ref a0)] [] M Q := by
  unfold T_X6_atName_0 at h
  refine a_aload_n dX6_atName_0 rfl rfl ?_
  obtain ⟨⟨ga1, gs2⟩, h⟩ := gd_t h
  refine a_get (v := .int (M.2.2.1 a0 13)) dX6_atName_1 fl_6_75 ga1 gs2 rfl ?_
  refine a_iconst (v := -1) dX6_atName_4 (by decide) ?_
  refine a_icmp_lt 29 dX6_atName_5 (by decide) (fun c3 => ?_) (fun c3 => ?_)
  · replace h := ite_t c3 h
    refine a_iconst (v := 0) dX6_atName_29 (by decide) ?_
    exact a_zret dX6_atName_30 rfl rfl (hR _ _ h)
  · replace h := ite_f c3 h
    refine a_aload_n dX6_atName_8 rfl rfl ?_
    refine a_get (v := .int (M.2.2.1 a0 13)) dX6_atName_9 fl_6_75 ga1 gs2 rfl ?_
    refine a_bipush (v := 7) dX6_atName_12 (by decide) ?_
    refine a_icmp_gt 29 dX6_atName_14 (by decide) (fun c4 => ?_) (fun c4 => ?_)
    · replace h := ite_t c4 h
      refine a_iconst (v := 0) dX6_atName_29 (by decide) ?_
      exact a_zret dX6_atName_30 rfl rfl (hR _ _ h)
    · replace h := ite_f c4 h
      refine a_aload_n dX6_atName_17 rfl rfl ?_
      obtain ⟨v5, M6, e7, h⟩ := bnd2_t h
      obtain ⟨n8, en9, e7⟩ := cal_t e7
      refine e_callV (As := []) (st := []) (a := a0) (ci := 6) false dX6_atName_18 mw_X6_wordLetters (Or.inl ⟨rfl, ml_X6_86⟩) im_X6_wordLetters se_X6_wordLetters (by decide) ga1 gs2 rfl (Nat.le_of_ble_eq_true rfl) en9 (s_X6_wordLetters e7) ?_
      refine a_iconst (v := 4) dX6_atName_21 (by decide) ?_
      refine a_icmp_gt 29 dX6_atName_22 (by decide) (fun c10 => ?_) (fun c10 => ?_)
      · replace h := ite_t c10 h
        refine a_iconst (v := 0) dX6_atName_29 (by decide) ?_
        exact a_zret dX6_atName_30 rfl rfl (hR _ _ h)
      · replace h := ite_f c10 h
        refine a_iconst (v := 1) dX6_atName_25 (by decide) ?_
        refine a_goto 30 dX6_atName_26 (by decide) ?_
        exact a_zret dX6_atName_30 rfl rfl (hR _ _ h)
noncomputable def b_X6_atName (n : Nat) (a0 : Nat) (M : Mem) : Option (Int32 × Mem) := T_X6_atName_0 (fun v M => some (v, M)) none n a0 M
set_option maxHeartbeats 4000000 in
set_option maxRecDepth 100000 in
theorem sb_X6_atName {X : Nat × (Nat → Int32)} {al : Bool} {n : Nat} {a0 : Nat} {M : Mem} {v : Int32} {M1 : Mem} (h : b_X6_atName n a0 M = some (v, M1)) : AE yX6_atName cX6_atName 1 (some .boolean) al n X [.ref a0] M (some (.int v)) M1 := by
  refine AM.of false (by decide +kernel) (by intro h; cases h) (Nat.le_of_ble_eq_true rfl) ?_
  have h2 : T_X6_atName_0 (fun v2 M2 => some (v2, M2) = some (v, M1)) (none = some (v, M1)) n a0 M := (n_X6_atName_0 (fun o => o = some (v, M1)) (fun v M => some (v, M)) none n a0 M).mp h
  have h3 : ((none : Option (Int32 × Mem)) = some (v, M1)) = False := eq_false (by intro q; cases q)
  rw [h3] at h2
  exact w_X6_atName_0 (fun v2 M2 h => by cases h; exact ⟨rfl, rfl⟩) h2

noncomputable abbrev f_X6_atName := b_X6_atName
theorem s_X6_atName {X : Nat × (Nat → Int32)} {al : Bool} {n : Nat} {a0 : Nat} {M : Mem} {v : Int32} {M1 : Mem} (h : f_X6_atName n a0 M = some (v, M1)) : AE yX6_atName cX6_atName 1 (some .boolean) al n X [.ref a0] M (some (.int v)) M1 := sb_X6_atName h
set_option maxHeartbeats 4000000 in
set_option maxRecDepth 100000 in
noncomputable def T_X6_fail_0.{u} {α : Sort u} (R : Int32 → Mem → α) (N : α) (n : Nat) (a0 : Nat) (x1 : Int32) (x2 : Int32) (M : Mem) : α := gd (fO M a0 6) N (R 0 (wI (wI M a0 17 x1) a0 18 x2))
set_option maxHeartbeats 4000000 in
set_option maxRecDepth 100000 in
theorem n_X6_fail_0.{u, v} {α : Sort u} {β : Sort v} (h : α → β) (R : Int32 → Mem → α) (N : α) (n : Nat) (a0 : Nat) (x1 : Int32) (x2 : Int32) (M : Mem) : h (T_X6_fail_0 R N n a0 x1 x2 M) = T_X6_fail_0 (fun v M => h (R v M)) (h N) n a0 x1 x2 M := by
  simp only [T_X6_fail_0, nat_ite h, nat_gd h, nat_bnd h, nat_bnd2 h]
set_option maxHeartbeats 4000000 in
set_option maxRecDepth 100000 in
theorem w_X6_fail_0 {X : Nat × (Nat → Int32)} {al : Bool} {n : Nat} {Q : Option Value → Mem → Prop} {R : Int32 → Mem → Prop} (hR : ∀ v M, R v M → Q (some (.int v)) M) {a0 : Nat} {x1 : Int32} {x2 : Int32} {M : Mem} (h : T_X6_fail_0 R False n a0 x1 x2 M) : AW X (RX6, cX6_fail, 3, (some .boolean), false, al, n) 0 0 0 [(0, .ref a0), (1, .int x1), (2, .int x2)] [] M Q := by
  unfold T_X6_fail_0 at h
  refine a_aload_n dX6_fail_0 rfl rfl ?_
  refine a_iload_n dX6_fail_1 rfl rfl ?_
  obtain ⟨⟨ga1, gs2⟩, h⟩ := gd_t h
  refine a_putI dX6_fail_2 (Or.inl ⟨fl_6_65, Or.inl rfl⟩) rfl ga1 gs2 rfl rfl ?_
  refine a_aload_n dX6_fail_5 rfl rfl ?_
  refine a_iload_n dX6_fail_6 rfl rfl ?_
  refine a_putI dX6_fail_7 (Or.inl ⟨fl_6_35, Or.inl rfl⟩) rfl ga1 gs2 rfl rfl ?_
  refine a_iconst (v := 0) dX6_fail_10 (by decide) ?_
  exact a_zret dX6_fail_11 rfl rfl (hR _ _ h)
noncomputable def b_X6_fail (n : Nat) (a0 : Nat) (x1 : Int32) (x2 : Int32) (M : Mem) : Option (Int32 × Mem) := T_X6_fail_0 (fun v M => some (v, M)) none n a0 x1 x2 M
set_option maxHeartbeats 4000000 in
set_option maxRecDepth 100000 in
theorem sb_X6_fail {X : Nat × (Nat → Int32)} {al : Bool} {n : Nat} {a0 : Nat} {x1 : Int32} {x2 : Int32} {M : Mem} {v : Int32} {M1 : Mem} (h : b_X6_fail n a0 x1 x2 M = some (v, M1)) : AE yX6_fail cX6_fail 3 (some .boolean) al n X [.ref a0, .int x1, .int x2] M (some (.int v)) M1 := by
  refine AM.of false (by decide +kernel) (by intro h; cases h) (Nat.le_of_ble_eq_true rfl) ?_
  have h2 : T_X6_fail_0 (fun v2 M2 => some (v2, M2) = some (v, M1)) (none = some (v, M1)) n a0 x1 x2 M := (n_X6_fail_0 (fun o => o = some (v, M1)) (fun v M => some (v, M)) none n a0 x1 x2 M).mp h
  have h3 : ((none : Option (Int32 × Mem)) = some (v, M1)) = False := eq_false (by intro q; cases q)
  rw [h3] at h2
  exact w_X6_fail_0 (fun v2 M2 h => by cases h; exact ⟨rfl, rfl⟩) h2

noncomputable abbrev f_X6_fail := b_X6_fail
theorem s_X6_fail {X : Nat × (Nat → Int32)} {al : Bool} {n : Nat} {a0 : Nat} {x1 : Int32} {x2 : Int32} {M : Mem} {v : Int32} {M1 : Mem} (h : f_X6_fail n a0 x1 x2 M = some (v, M1)) : AE yX6_fail cX6_fail 3 (some .boolean) al n X [.ref a0, .int x1, .int x2] M (some (.int v)) M1 := sb_X6_fail h
set_option maxHeartbeats 4000000 in
set_option maxRecDepth 100000 in
noncomputable def T_X6_nameRead_0.{u} {α : Sort u} (R : Int32 → Mem → α) (N : α) (n : Nat) (a0 : Nat) (M : Mem) : α := gd (fO M a0 6) N (bnd2 (cal n (fun n => f_X6_wordLetters n a0 M)) N (fun v3 M4 => gd (1 ≤ n) N (R (Int64.toInt32 ((M.2.2.2.1 a0 14) <<< (Int32.toInt64 (8 * (4 - (if v3 < 4 then v3 else 4))) &&& 63))) M4)))
set_option maxHeartbeats 4000000 in
set_option maxRecDepth 100000 in
theorem n_X6_nameRead_0.{u, v} {α : Sort u} {β : Sort v} (h : α → β) (R : Int32 → Mem → α) (N : α) (n : Nat) (a0 : Nat) (M : Mem) : h (T_X6_nameRead_0 R N n a0 M) = T_X6_nameRead_0 (fun v M => h (R v M)) (h N) n a0 M := by
  simp only [T_X6_nameRead_0, nat_ite h, nat_gd h, nat_bnd h, nat_bnd2 h]
set_option maxHeartbeats 4000000 in
set_option maxRecDepth 100000 in
theorem w_X6_nameRead_0 {X : Nat × (Nat → Int32)} {al : Bool} {n : Nat} {Q : Option Value → Mem → Prop} {R : Int32 → Mem → Prop} (hR : ∀ v M, R v M → Q (some (.int v)) M) {a0 : Nat} {M : Mem} (h : T_X6_nameRead_0 R False n a0 M) : AW X (RX6, cX6_nameRead, 1, (some .int), false, al, n) 0 0 0 [(0, .ref a0)] [] M Q := by
  unfold T_X6_nameRead_0 at h
  refine a_aload_n dX6_nameRead_0 rfl rfl ?_
  obtain ⟨⟨ga1, gs2⟩, h⟩ := gd_t h
  refine a_get (v := .long (M.2.2.2.1 a0 14)) dX6_nameRead_1 fl_6_71 ga1 gs2 rfl ?_
  refine a_bipush (v := 8) dX6_nameRead_4 (by decide) ?_
  refine a_iconst (v := 4) dX6_nameRead_6 (by decide) ?_
  refine a_iconst (v := 4) dX6_nameRead_7 (by decide) ?_
  refine a_aload_n dX6_nameRead_8 rfl rfl ?_
  obtain ⟨v3, M4, e5, h⟩ := bnd2_t h
  obtain ⟨n6, en7, e5⟩ := cal_t e5
  refine e_callV (As := []) (st := [.int 4, .int 4, .int 8, .long (M.2.2.2.1 a0 14)]) (a := a0) (ci := 6) false dX6_nameRead_9 mw_X6_wordLetters (Or.inl ⟨rfl, ml_X6_86⟩) im_X6_wordLetters se_X6_wordLetters (by decide) ga1 gs2 rfl (Nat.le_of_ble_eq_true rfl) en7 (s_X6_wordLetters e5) ?_
  obtain ⟨gf8, h⟩ := gd_t h
  refine a_mmin dX6_nameRead_12 mm_X6_54 mmin_s ini_Math mmin_c gf8 (Nat.le_of_ble_eq_true rfl) ?_
  refine a_isub dX6_nameRead_15 ?_
  refine a_imul dX6_nameRead_16 ?_
  refine a_lshl dX6_nameRead_17 ?_
  refine a_l2i dX6_nameRead_18 ?_
  exact a_iret dX6_nameRead_19 rfl (hR _ _ h)
noncomputable def b_X6_nameRead (n : Nat) (a0 : Nat) (M : Mem) : Option (Int32 × Mem) := T_X6_nameRead_0 (fun v M => some (v, M)) none n a0 M
set_option maxHeartbeats 4000000 in
set_option maxRecDepth 100000 in
theorem sb_X6_nameRead {X : Nat × (Nat → Int32)} {al : Bool} {n : Nat} {a0 : Nat} {M : Mem} {v : Int32} {M1 : Mem} (h : b_X6_nameRead n a0 M = some (v, M1)) : AE yX6_nameRead cX6_nameRead 1 (some .int) al n X [.ref a0] M (some (.int v)) M1 := by
  refine AM.of false (by decide +kernel) (by intro h; cases h) (Nat.le_of_ble_eq_true rfl) ?_
  have h2 : T_X6_nameRead_0 (fun v2 M2 => some (v2, M2) = some (v, M1)) (none = some (v, M1)) n a0 M := (n_X6_nameRead_0 (fun o => o = some (v, M1)) (fun v M => some (v, M)) none n a0 M).mp h
  have h3 : ((none : Option (Int32 × Mem)) = some (v, M1)) = False := eq_false (by intro q; cases q)
  rw [h3] at h2
  exact w_X6_nameRead_0 (fun v2 M2 h => by cases h; exact ⟨rfl, rfl⟩) h2

noncomputable abbrev f_X6_nameRead := b_X6_nameRead
theorem s_X6_nameRead {X : Nat × (Nat → Int32)} {al : Bool} {n : Nat} {a0 : Nat} {M : Mem} {v : Int32} {M1 : Mem} (h : f_X6_nameRead n a0 M = some (v, M1)) : AE yX6_nameRead cX6_nameRead 1 (some .int) al n X [.ref a0] M (some (.int v)) M1 := sb_X6_nameRead h
set_option maxHeartbeats 4000000 in
set_option maxRecDepth 100000 in
noncomputable def T_X10_nameLetter_0.{u} {α : Sort u} (R : Int32 → Mem → α) (N : α) (n : Nat) (x0 : Int32) (x1 : Int32) (M : Mem) : α := if x1 < 0 then R (-1) M else if x1 ≤ 3 then if ((iushr x0 (24 - (8 * x1))) &&& 255) = 0 then R (-1) M else R ((iushr x0 (24 - (8 * x1))) &&& 255) M else R (-1) M
set_option maxHeartbeats 4000000 in
set_option maxRecDepth 100000 in
theorem n_X10_nameLetter_0.{u, v} {α : Sort u} {β : Sort v} (h : α → β) (R : Int32 → Mem → α) (N : α) (n : Nat) (x0 : Int32) (x1 : Int32) (M : Mem) : h (T_X10_nameLetter_0 R N n x0 x1 M) = T_X10_nameLetter_0 (fun v M => h (R v M)) (h N) n x0 x1 M := by
  simp only [T_X10_nameLetter_0, nat_ite h, nat_gd h, nat_bnd h, nat_bnd2 h]
set_option maxHeartbeats 4000000 in
set_option maxRecDepth 100000 in
theorem w_X10_nameLetter_0 {X : Nat × (Nat → Int32)} {al : Bool} {n : Nat} {Q : Option Value → Mem → Prop} {R : Int32 → Mem → Prop} (hR : ∀ v M, R v M → Q (some (.int v)) M) {x0 : Int32} {x1 : Int32} {M : Mem} (h : T_X10_nameLetter_0 R False n x0 x1 M) : AW X (RX10, cX10_nameLetter, 3, (some .int), false, al, n) 0 0 0 [(0, .int x0), (1, .int x1)] [] M Q := by
  unfold T_X10_nameLetter_0 at h
  refine a_iload_n dX10_nameLetter_0 rfl rfl ?_
  refine a_if_lt 9 dX10_nameLetter_1 (by decide) (fun c1 => ?_) (fun c1 => ?_)
  · replace h := ite_t c1 h
    refine a_iconst (v := -1) dX10_nameLetter_9 (by decide) ?_
    exact a_iret dX10_nameLetter_10 rfl (hR _ _ h)
  · replace h := ite_f c1 h
    refine a_iload_n dX10_nameLetter_4 rfl rfl ?_
    refine a_iconst (v := 3) dX10_nameLetter_5 (by decide) ?_
    refine a_icmp_le 11 dX10_nameLetter_6 (by decide) (fun c2 => ?_) (fun c2 => ?_)
    · replace h := ite_t c2 h
      refine a_iload_n dX10_nameLetter_11 rfl rfl ?_
      refine a_bipush (v := 24) dX10_nameLetter_12 (by decide) ?_
      refine a_bipush (v := 8) dX10_nameLetter_14 (by decide) ?_
      refine a_iload_n dX10_nameLetter_16 rfl rfl ?_
      refine a_imul dX10_nameLetter_17 ?_
      refine a_isub dX10_nameLetter_18 ?_
      refine a_iushr dX10_nameLetter_19 ?_
      refine a_sipush (v := 255) dX10_nameLetter_20 (by decide) ?_
      refine a_iand dX10_nameLetter_23 ?_
      refine a_istore_n dX10_nameLetter_24 rfl (Nat.le_of_ble_eq_true rfl) (lv2 := [(2, .int ((iushr x0 (24 - (8 * x1))) &&& 255)), (0, .int x0), (1, .int x1)]) rfl ?_
      refine a_iload_n dX10_nameLetter_25 rfl rfl ?_
      refine a_if_ne 33 dX10_nameLetter_26 (by decide) (fun c3 => ?_) (fun c3 => ?_)
      · replace h := ite_f c3 h
        refine a_iload_n dX10_nameLetter_33 rfl rfl ?_
        exact a_iret dX10_nameLetter_34 rfl (hR _ _ h)
      · replace h := ite_t c3 h
        refine a_iconst (v := -1) dX10_nameLetter_29 (by decide) ?_
        refine a_goto 34 dX10_nameLetter_30 (by decide) ?_
        exact a_iret dX10_nameLetter_34 rfl (hR _ _ h)
    · replace h := ite_f c2 h
      refine a_iconst (v := -1) dX10_nameLetter_9 (by decide) ?_
      exact a_iret dX10_nameLetter_10 rfl (hR _ _ h)
noncomputable def b_X10_nameLetter (n : Nat) (x0 : Int32) (x1 : Int32) (M : Mem) : Option (Int32 × Mem) := T_X10_nameLetter_0 (fun v M => some (v, M)) none n x0 x1 M
set_option maxHeartbeats 4000000 in
set_option maxRecDepth 100000 in
theorem sb_X10_nameLetter {X : Nat × (Nat → Int32)} {al : Bool} {n : Nat} {x0 : Int32} {x1 : Int32} {M : Mem} {v : Int32} {M1 : Mem} (h : b_X10_nameLetter n x0 x1 M = some (v, M1)) : AE yX10_nameLetter cX10_nameLetter 3 (some .int) al n X [.int x0, .int x1] M (some (.int v)) M1 := by
  refine AM.of false (by decide +kernel) (by intro h; cases h) (Nat.le_of_ble_eq_true rfl) ?_
  have h2 : T_X10_nameLetter_0 (fun v2 M2 => some (v2, M2) = some (v, M1)) (none = some (v, M1)) n x0 x1 M := (n_X10_nameLetter_0 (fun o => o = some (v, M1)) (fun v M => some (v, M)) none n x0 x1 M).mp h
  have h3 : ((none : Option (Int32 × Mem)) = some (v, M1)) = False := eq_false (by intro q; cases q)
  rw [h3] at h2
  exact w_X10_nameLetter_0 (fun v2 M2 h => by cases h; exact ⟨rfl, rfl⟩) h2

noncomputable abbrev f_X10_nameLetter := b_X10_nameLetter
theorem s_X10_nameLetter {X : Nat × (Nat → Int32)} {al : Bool} {n : Nat} {x0 : Int32} {x1 : Int32} {M : Mem} {v : Int32} {M1 : Mem} (h : f_X10_nameLetter n x0 x1 M = some (v, M1)) : AE yX10_nameLetter cX10_nameLetter 3 (some .int) al n X [.int x0, .int x1] M (some (.int v)) M1 := sb_X10_nameLetter h
def ix_X2_find (c : Nat) : List Nat := if c = 0 then [0, 1] else if c = 2 then [0, 1, 2] else []
def PW_X2_find (X : Nat × (Nat → Int32)) (al : Bool) (n : Nat) (Q : Option Value → Mem → Prop) (c : Nat) (l : List Value) (M : Mem) : Prop := AW X (RX2, cX2_find, 3, (some .int), false, al, n) 0 0 c (List.zip (ix_X2_find c) l) (l.drop (ix_X2_find c).length) M Q
set_option maxHeartbeats 4000000 in
set_option maxRecDepth 100000 in
noncomputable def T_X2_find_0.{u} {α : Sort u} (J : Nat → List Value → Mem → α) (R : Int32 → Mem → α) (N : α) (n : Nat) (a0 : Nat) (x1 : Int32) (M : Mem) : α := J 2 [.ref a0, .int x1, .int 0] M
set_option maxHeartbeats 4000000 in
set_option maxRecDepth 100000 in
theorem n_X2_find_0.{u, v} {α : Sort u} {β : Sort v} (h : α → β) (J : Nat → List Value → Mem → α) (R : Int32 → Mem → α) (N : α) (n : Nat) (a0 : Nat) (x1 : Int32) (M : Mem) : h (T_X2_find_0 J R N n a0 x1 M) = T_X2_find_0 (fun c l M => h (J c l M)) (fun v M => h (R v M)) (h N) n a0 x1 M := by
  simp only [T_X2_find_0, nat_ite h, nat_gd h, nat_bnd h, nat_bnd2 h]
set_option maxHeartbeats 4000000 in
set_option maxRecDepth 100000 in
theorem w_X2_find_0 {X : Nat × (Nat → Int32)} {al : Bool} {n : Nat} {Q : Option Value → Mem → Prop} {J : Nat → List Value → Mem → Prop} (hJ : ∀ c l M, J c l M → PW_X2_find X al n Q c l M) {R : Int32 → Mem → Prop} (hR : ∀ v M, R v M → Q (some (.int v)) M) {a0 : Nat} {x1 : Int32} {M : Mem} (h : T_X2_find_0 J R False n a0 x1 M) : AW X (RX2, cX2_find, 3, (some .int), false, al, n) 0 0 0 [(0, .ref a0), (1, .int x1)] [] M Q := by
  unfold T_X2_find_0 at h
  refine a_iconst (v := 0) dX2_find_0 (by decide) ?_
  refine a_istore_n dX2_find_1 rfl (Nat.le_of_ble_eq_true rfl) (lv2 := [(2, .int 0), (0, .ref a0), (1, .int x1)]) rfl ?_
  exact a_lv (lv2 := [(0, .ref a0), (1, .int x1), (2, .int 0)]) (fa_cons rfl (fa_cons rfl (fa_cons rfl fa_nil))) (hJ _ _ _ h)
set_option maxHeartbeats 4000000 in
set_option maxRecDepth 100000 in
noncomputable def T_X2_find_2.{u} {α : Sort u} (J : Nat → List Value → Mem → α) (R : Int32 → Mem → α) (N : α) (n : Nat) (a0 : Nat) (x1 : Int32) (x2 : Int32) (M : Mem) : α := gd (fO M a0 2) N (if (M.2.2.1 a0 3) ≤ x2 then R (-1) M else if 6 ≤ x2 then R (-1) M else bnd (M.2.2.2.2 a0 0) N (fun r5 => gd (fA M r5 1 x2) N (if (M.2.2.1 r5 (x2.toNatClampNeg)) = x1 then R x2 M else J 2 [.ref a0, .int x1, .int (x2 + 1)] M)))
set_option maxHeartbeats 4000000 in
set_option maxRecDepth 100000 in
theorem n_X2_find_2.{u, v} {α : Sort u} {β : Sort v} (h : α → β) (J : Nat → List Value → Mem → α) (R : Int32 → Mem → α) (N : α) (n : Nat) (a0 : Nat) (x1 : Int32) (x2 : Int32) (M : Mem) : h (T_X2_find_2 J R N n a0 x1 x2 M) = T_X2_find_2 (fun c l M => h (J c l M)) (fun v M => h (R v M)) (h N) n a0 x1 x2 M := by
  simp only [T_X2_find_2, nat_ite h, nat_gd h, nat_bnd h, nat_bnd2 h]
set_option maxHeartbeats 4000000 in
set_option maxRecDepth 100000 in
theorem w_X2_find_2 {X : Nat × (Nat → Int32)} {al : Bool} {n : Nat} {Q : Option Value → Mem → Prop} {J : Nat → List Value → Mem → Prop} (hJ : ∀ c l M, J c l M → PW_X2_find X al n Q c l M) {R : Int32 → Mem → Prop} (hR : ∀ v M, R v M → Q (some (.int v)) M) {a0 : Nat} {x1 : Int32} {x2 : Int32} {M : Mem} (h : T_X2_find_2 J R False n a0 x1 x2 M) : AW X (RX2, cX2_find, 3, (some .int), false, al, n) 0 0 2 [(0, .ref a0), (1, .int x1), (2, .int x2)] [] M Q := by
  unfold T_X2_find_2 at h
  refine a_iload_n dX2_find_2 rfl rfl ?_
  refine a_aload_n dX2_find_3 rfl rfl ?_
  obtain ⟨⟨ga1, gs2⟩, h⟩ := gd_t h
  refine a_get (v := .int (M.2.2.1 a0 3)) dX2_find_4 fl_2_21 ga1 gs2 rfl ?_
  refine a_icmp_ge 34 dX2_find_7 (by decide) (fun c3 => ?_) (fun c3 => ?_)
  · replace h := ite_t c3 h
    refine a_iconst (v := -1) dX2_find_34 (by decide) ?_
    exact a_iret dX2_find_35 rfl (hR _ _ h)
  · replace h := ite_f c3 h
    refine a_iload_n dX2_find_10 rfl rfl ?_
    refine a_bipush (v := 6) dX2_find_11 (by decide) ?_
    refine a_icmp_ge 34 dX2_find_13 (by decide) (fun c4 => ?_) (fun c4 => ?_)
    · replace h := ite_t c4 h
      refine a_iconst (v := -1) dX2_find_34 (by decide) ?_
      exact a_iret dX2_find_35 rfl (hR _ _ h)
    · replace h := ite_f c4 h
      refine a_aload_n dX2_find_16 rfl rfl ?_
      obtain ⟨r5, e6, h⟩ := bnd_t h
      refine a_get (v := .ref r5) dX2_find_17 fl_2_9 ga1 gs2 (gvR e6 rfl) ?_
      refine a_iload_n dX2_find_20 rfl rfl ?_
      obtain ⟨⟨ga7, gn8, gs9, gi10⟩, h⟩ := gd_t h
      refine a_iaload dX2_find_21 ga7 gs9 gi10 ?_
      refine a_iload_n dX2_find_22 rfl rfl ?_
      refine a_icmp_ne 28 dX2_find_23 (by decide) (fun c11 => ?_) (fun c11 => ?_)
      · replace h := ite_f c11 h
        refine a_iinc (v := (x2 + 1)) dX2_find_28 rfl (by first | rfl | decide) (Nat.le_of_ble_eq_true rfl) (lv2 := [(2, .int (x2 + 1)), (0, .ref a0), (1, .int x1)]) rfl ?_
        refine a_goto 2 dX2_find_31 (by decide) ?_
        exact a_lv (lv2 := [(0, .ref a0), (1, .int x1), (2, .int (x2 + 1))]) (fa_cons rfl (fa_cons rfl (fa_cons rfl fa_nil))) (hJ _ _ _ h)
      · replace h := ite_t c11 h
        refine a_iload_n dX2_find_26 rfl rfl ?_
        exact a_iret dX2_find_27 rfl (hR _ _ h)
set_option maxHeartbeats 4000000 in
set_option maxRecDepth 100000 in
noncomputable def st_X2_find (n : Nat) (s : Sg) : Option (Sg ⊕ (Int32 × Mem)) := if s.1 = 0 then vR s.2.1 none (fun a0 t => vI t none (fun x1 t => vE t none (T_X2_find_0 (fun c l M => some (.inl (c, l, M))) (fun v M => some (.inr (v, M))) none n a0 x1 s.2.2))) else if s.1 = 2 then vR s.2.1 none (fun a0 t => vI t none (fun x1 t => vI t none (fun x2 t => vE t none (T_X2_find_2 (fun c l M => some (.inl (c, l, M))) (fun v M => some (.inr (v, M))) none n a0 x1 x2 s.2.2)))) else none
noncomputable abbrev g_X2_find_0 (n : Nat) (a0 : Nat) (x1 : Int32) (M : Mem) : Option (Int32 × Mem) := lp (st_X2_find n) (0, [.ref a0, .int x1], M)
set_option maxHeartbeats 4000000 in
set_option maxRecDepth 100000 in
theorem ge_X2_find_0 (n : Nat) (a0 : Nat) (x1 : Int32) (M : Mem) : g_X2_find_0 n a0 x1 M = T_X2_find_0 (fun c l M => lp (st_X2_find n) (c, l, M)) (fun v M => some (v, M)) none n a0 x1 M := (lp_eq _ _).trans (n_X2_find_0 (lpK (st_X2_find n)) (fun c l M => some (.inl (c, l, M))) (fun v M => some (.inr (v, M))) none n a0 x1 M)
noncomputable abbrev g_X2_find_2 (n : Nat) (a0 : Nat) (x1 : Int32) (x2 : Int32) (M : Mem) : Option (Int32 × Mem) := lp (st_X2_find n) (2, [.ref a0, .int x1, .int x2], M)
set_option maxHeartbeats 4000000 in
set_option maxRecDepth 100000 in
theorem ge_X2_find_2 (n : Nat) (a0 : Nat) (x1 : Int32) (x2 : Int32) (M : Mem) : g_X2_find_2 n a0 x1 x2 M = T_X2_find_2 (fun c l M => lp (st_X2_find n) (c, l, M)) (fun v M => some (v, M)) none n a0 x1 x2 M := (lp_eq _ _).trans (n_X2_find_2 (lpK (st_X2_find n)) (fun c l M => some (.inl (c, l, M))) (fun v M => some (.inr (v, M))) none n a0 x1 x2 M)
noncomputable def b_X2_find (n : Nat) (a0 : Nat) (x1 : Int32) (M : Mem) : Option (Int32 × Mem) := g_X2_find_0 n a0 x1 M
set_option maxHeartbeats 4000000 in
set_option maxRecDepth 100000 in
theorem sb_X2_find {X : Nat × (Nat → Int32)} {al : Bool} {n : Nat} {a0 : Nat} {x1 : Int32} {M : Mem} {v : Int32} {M1 : Mem} (h : b_X2_find n a0 x1 M = some (v, M1)) : AE yX2_find cX2_find 3 (some .int) al n X [.ref a0, .int x1] M (some (.int v)) M1 := by
  refine AM.of false (by decide +kernel) (by intro h; cases h) (Nat.le_of_ble_eq_true rfl) ?_
  refine lp_snd (P := fun s r => PW_X2_find X al n (fun v M2 => v = (some (.int r.1)) ∧ M2 = r.2) s.1 s.2.1 s.2.2) ?_ h
  clear h
  rintro ⟨c, l, M⟩ r h
  unfold st_X2_find at h
  rcases ite_p h with ⟨e, h⟩ | ⟨e, h⟩
  · replace e : c = 0 := e
    subst e
    obtain ⟨a0, tt0, e, h⟩ := vR_p id h
    replace e : l = _ := e
    subst e
    obtain ⟨x1, tt1, e, h⟩ := vI_p id h
    replace e : tt0 = _ := e
    subst e
    obtain ⟨e, h⟩ := vE_p id h
    replace e : tt1 = [] := e
    subst e
    exact w_X2_find_0 (J := fun c l M => PW_X2_find X al n (fun v M2 => v = (some (.int r.1)) ∧ M2 = r.2) c l M) (R := fun v M => (v, M) = r) (fun _ _ _ h => h) (fun v M h => by cases h; exact ⟨rfl, rfl⟩) ((n_X2_find_0 (lpP (fun (s : Sg) (r : Int32 × Mem) => PW_X2_find X al n (fun v M2 => v = (some (.int r.1)) ∧ M2 = r.2) s.1 s.2.1 s.2.2) r) (fun c l M => some (.inl (c, l, M))) (fun v M => some (.inr (v, M))) none n a0 x1 M).mp h)
  rcases ite_p h with ⟨e, h⟩ | ⟨e, h⟩
  · replace e : c = 2 := e
    subst e
    obtain ⟨a0, tt0, e, h⟩ := vR_p id h
    replace e : l = _ := e
    subst e
    obtain ⟨x1, tt1, e, h⟩ := vI_p id h
    replace e : tt0 = _ := e
    subst e
    obtain ⟨x2, tt2, e, h⟩ := vI_p id h
    replace e : tt1 = _ := e
    subst e
    obtain ⟨e, h⟩ := vE_p id h
    replace e : tt2 = [] := e
    subst e
    exact w_X2_find_2 (J := fun c l M => PW_X2_find X al n (fun v M2 => v = (some (.int r.1)) ∧ M2 = r.2) c l M) (R := fun v M => (v, M) = r) (fun _ _ _ h => h) (fun v M h => by cases h; exact ⟨rfl, rfl⟩) ((n_X2_find_2 (lpP (fun (s : Sg) (r : Int32 × Mem) => PW_X2_find X al n (fun v M2 => v = (some (.int r.1)) ∧ M2 = r.2) s.1 s.2.1 s.2.2) r) (fun c l M => some (.inl (c, l, M))) (fun v M => some (.inr (v, M))) none n a0 x1 x2 M).mp h)
  · exact h.elim

noncomputable abbrev f_X2_find := b_X2_find
theorem s_X2_find {X : Nat × (Nat → Int32)} {al : Bool} {n : Nat} {a0 : Nat} {x1 : Int32} {M : Mem} {v : Int32} {M1 : Mem} (h : f_X2_find n a0 x1 M = some (v, M1)) : AE yX2_find cX2_find 3 (some .int) al n X [.ref a0, .int x1] M (some (.int v)) M1 := sb_X2_find h
set_option maxHeartbeats 4000000 in
set_option maxRecDepth 100000 in
noncomputable def T_X2_isFull_0.{u} {α : Sort u} (R : Int32 → Mem → α) (N : α) (n : Nat) (a0 : Nat) (M : Mem) : α := gd (fO M a0 2) N (if (M.2.2.1 a0 3) < 6 then R 0 M else R 1 M)
set_option maxHeartbeats 4000000 in
set_option maxRecDepth 100000 in
theorem n_X2_isFull_0.{u, v} {α : Sort u} {β : Sort v} (h : α → β) (R : Int32 → Mem → α) (N : α) (n : Nat) (a0 : Nat) (M : Mem) : h (T_X2_isFull_0 R N n a0 M) = T_X2_isFull_0 (fun v M => h (R v M)) (h N) n a0 M := by
  simp only [T_X2_isFull_0, nat_ite h, nat_gd h, nat_bnd h, nat_bnd2 h]
set_option maxHeartbeats 4000000 in
set_option maxRecDepth 100000 in
theorem w_X2_isFull_0 {X : Nat × (Nat → Int32)} {al : Bool} {n : Nat} {Q : Option Value → Mem → Prop} {R : Int32 → Mem → Prop} (hR : ∀ v M, R v M → Q (some (.int v)) M) {a0 : Nat} {M : Mem} (h : T_X2_isFull_0 R False n a0 M) : AW X (RX2, cX2_isFull, 1, (some .boolean), false, al, n) 0 0 0 [(0, .ref a0)] [] M Q := by
  unfold T_X2_isFull_0 at h
  refine a_aload_n dX2_isFull_0 rfl rfl ?_
  obtain ⟨⟨ga1, gs2⟩, h⟩ := gd_t h
  refine a_get (v := .int (M.2.2.1 a0 3)) dX2_isFull_1 fl_2_21 ga1 gs2 rfl ?_
  refine a_bipush (v := 6) dX2_isFull_4 (by decide) ?_
  refine a_icmp_lt 13 dX2_isFull_6 (by decide) (fun c3 => ?_) (fun c3 => ?_)
  · replace h := ite_t c3 h
    refine a_iconst (v := 0) dX2_isFull_13 (by decide) ?_
    exact a_zret dX2_isFull_14 rfl rfl (hR _ _ h)
  · replace h := ite_f c3 h
    refine a_iconst (v := 1) dX2_isFull_9 (by decide) ?_
    refine a_goto 14 dX2_isFull_10 (by decide) ?_
    exact a_zret dX2_isFull_14 rfl rfl (hR _ _ h)
noncomputable def b_X2_isFull (n : Nat) (a0 : Nat) (M : Mem) : Option (Int32 × Mem) := T_X2_isFull_0 (fun v M => some (v, M)) none n a0 M
set_option maxHeartbeats 4000000 in
set_option maxRecDepth 100000 in
theorem sb_X2_isFull {X : Nat × (Nat → Int32)} {al : Bool} {n : Nat} {a0 : Nat} {M : Mem} {v : Int32} {M1 : Mem} (h : b_X2_isFull n a0 M = some (v, M1)) : AE yX2_isFull cX2_isFull 1 (some .boolean) al n X [.ref a0] M (some (.int v)) M1 := by
  refine AM.of false (by decide +kernel) (by intro h; cases h) (Nat.le_of_ble_eq_true rfl) ?_
  have h2 : T_X2_isFull_0 (fun v2 M2 => some (v2, M2) = some (v, M1)) (none = some (v, M1)) n a0 M := (n_X2_isFull_0 (fun o => o = some (v, M1)) (fun v M => some (v, M)) none n a0 M).mp h
  have h3 : ((none : Option (Int32 × Mem)) = some (v, M1)) = False := eq_false (by intro q; cases q)
  rw [h3] at h2
  exact w_X2_isFull_0 (fun v2 M2 h => by cases h; exact ⟨rfl, rfl⟩) h2

noncomputable abbrev f_X2_isFull := b_X2_isFull
theorem s_X2_isFull {X : Nat × (Nat → Int32)} {al : Bool} {n : Nat} {a0 : Nat} {M : Mem} {v : Int32} {M1 : Mem} (h : f_X2_isFull n a0 M = some (v, M1)) : AE yX2_isFull cX2_isFull 1 (some .boolean) al n X [.ref a0] M (some (.int v)) M1 := sb_X2_isFull h
set_option maxHeartbeats 4000000 in
set_option maxRecDepth 100000 in
noncomputable def T_X10_at_0.{u} {α : Sort u} (R : Int32 → Mem → α) (N : α) (n : Nat) (a0 : Nat) (x1 : Int32) (M : Mem) : α := if x1 < 0 then R (-1) M else bnd (aLen M a0) N (fun z2 => if (Int32.ofNat z2) ≤ x1 then R (-1) M else gd (fA M a0 1 x1) N (R (M.2.2.1 a0 (x1.toNatClampNeg)) M))
set_option maxHeartbeats 4000000 in
set_option maxRecDepth 100000 in
theorem n_X10_at_0.{u, v} {α : Sort u} {β : Sort v} (h : α → β) (R : Int32 → Mem → α) (N : α) (n : Nat) (a0 : Nat) (x1 : Int32) (M : Mem) : h (T_X10_at_0 R N n a0 x1 M) = T_X10_at_0 (fun v M => h (R v M)) (h N) n a0 x1 M := by
  simp only [T_X10_at_0, nat_ite h, nat_gd h, nat_bnd h, nat_bnd2 h]
set_option maxHeartbeats 4000000 in
set_option maxRecDepth 100000 in
theorem w_X10_at_0 {X : Nat × (Nat → Int32)} {al : Bool} {n : Nat} {Q : Option Value → Mem → Prop} {R : Int32 → Mem → Prop} (hR : ∀ v M, R v M → Q (some (.int v)) M) {a0 : Nat} {x1 : Int32} {M : Mem} (h : T_X10_at_0 R False n a0 x1 M) : AW X (RX10, cX10_at, 2, (some .int), false, al, n) 0 0 0 [(0, .ref a0), (1, .int x1)] [] M Q := by
  unfold T_X10_at_0 at h
  refine a_iload_n dX10_at_0 rfl rfl ?_
  refine a_if_lt 16 dX10_at_1 (by decide) (fun c1 => ?_) (fun c1 => ?_)
  · replace h := ite_t c1 h
    refine a_iconst (v := -1) dX10_at_16 (by decide) ?_
    exact a_iret dX10_at_17 rfl (hR _ _ h)
  · replace h := ite_f c1 h
    refine a_iload_n dX10_at_4 rfl rfl ?_
    refine a_aload_n dX10_at_5 rfl rfl ?_
    obtain ⟨z2, e3, h⟩ := bnd_t h
    obtain ⟨ga4, gt5, gu6, gs7⟩ := aLen_t e3
    refine a_alen gu6 dX10_at_6 ga4 gs7 rfl ?_
    refine a_icmp_ge 16 dX10_at_7 (by decide) (fun c8 => ?_) (fun c8 => ?_)
    · replace h := ite_t c8 h
      refine a_iconst (v := -1) dX10_at_16 (by decide) ?_
      exact a_iret dX10_at_17 rfl (hR _ _ h)
    · replace h := ite_f c8 h
      refine a_aload_n dX10_at_10 rfl rfl ?_
      refine a_iload_n dX10_at_11 rfl rfl ?_
      obtain ⟨⟨ga9, gn10, gs11, gi12⟩, h⟩ := gd_t h
      refine a_iaload dX10_at_12 ga9 gs11 gi12 ?_
      refine a_goto 17 dX10_at_13 (by decide) ?_
      exact a_iret dX10_at_17 rfl (hR _ _ h)
noncomputable def b_X10_at (n : Nat) (a0 : Nat) (x1 : Int32) (M : Mem) : Option (Int32 × Mem) := T_X10_at_0 (fun v M => some (v, M)) none n a0 x1 M
set_option maxHeartbeats 4000000 in
set_option maxRecDepth 100000 in
theorem sb_X10_at {X : Nat × (Nat → Int32)} {al : Bool} {n : Nat} {a0 : Nat} {x1 : Int32} {M : Mem} {v : Int32} {M1 : Mem} (h : b_X10_at n a0 x1 M = some (v, M1)) : AE yX10_at cX10_at 2 (some .int) al n X [.ref a0, .int x1] M (some (.int v)) M1 := by
  refine AM.of false (by decide +kernel) (by intro h; cases h) (Nat.le_of_ble_eq_true rfl) ?_
  have h2 : T_X10_at_0 (fun v2 M2 => some (v2, M2) = some (v, M1)) (none = some (v, M1)) n a0 x1 M := (n_X10_at_0 (fun o => o = some (v, M1)) (fun v M => some (v, M)) none n a0 x1 M).mp h
  have h3 : ((none : Option (Int32 × Mem)) = some (v, M1)) = False := eq_false (by intro q; cases q)
  rw [h3] at h2
  exact w_X10_at_0 (fun v2 M2 h => by cases h; exact ⟨rfl, rfl⟩) h2

noncomputable abbrev f_X10_at := b_X10_at
theorem s_X10_at {X : Nat × (Nat → Int32)} {al : Bool} {n : Nat} {a0 : Nat} {x1 : Int32} {M : Mem} {v : Int32} {M1 : Mem} (h : f_X10_at n a0 x1 M = some (v, M1)) : AE yX10_at cX10_at 2 (some .int) al n X [.ref a0, .int x1] M (some (.int v)) M1 := sb_X10_at h
set_option maxHeartbeats 4000000 in
set_option maxRecDepth 100000 in
noncomputable def T_X10_wordLength_0.{u} {α : Sort u} (R : Int32 → Mem → α) (N : α) (n : Nat) (x0 : Int32) (M : Mem) : α := if x0 < 0 then R 0 M else if 22 ≤ x0 then R 0 M else gd (vp_in x0 22) N (R (wlF x0.toNatClampNeg) M)
set_option maxHeartbeats 4000000 in
set_option maxRecDepth 100000 in
theorem n_X10_wordLength_0.{u, v} {α : Sort u} {β : Sort v} (h : α → β) (R : Int32 → Mem → α) (N : α) (n : Nat) (x0 : Int32) (M : Mem) : h (T_X10_wordLength_0 R N n x0 M) = T_X10_wordLength_0 (fun v M => h (R v M)) (h N) n x0 M := by
  simp only [T_X10_wordLength_0, nat_ite h, nat_gd h, nat_bnd h, nat_bnd2 h]
set_option maxHeartbeats 4000000 in
set_option maxRecDepth 100000 in
theorem w_X10_wordLength_0 {X : Nat × (Nat → Int32)} {al : Bool} {n : Nat} {Q : Option Value → Mem → Prop} {R : Int32 → Mem → Prop} (hR : ∀ v M, R v M → Q (some (.int v)) M) {x0 : Int32} {M : Mem} (h : T_X10_wordLength_0 R False n x0 M) : AW X (RX10, cX10_wordLength, 1, (some .int), false, al, n) 0 0 0 [(0, .int x0)] [] M Q := by
  unfold T_X10_wordLength_0 at h
  refine a_iload_n dX10_wordLength_0 rfl rfl ?_
  refine a_if_lt 18 dX10_wordLength_1 (by decide) (fun c1 => ?_) (fun c1 => ?_)
  · replace h := ite_t c1 h
    refine a_iconst (v := 0) dX10_wordLength_18 (by decide) ?_
    exact a_iret dX10_wordLength_19 rfl (hR _ _ h)
  · replace h := ite_f c1 h
    refine a_iload_n dX10_wordLength_4 rfl rfl ?_
    refine a_bipush (v := 22) dX10_wordLength_5 (by decide) ?_
    refine a_icmp_ge 18 dX10_wordLength_7 (by decide) (fun c2 => ?_) (fun c2 => ?_)
    · replace h := ite_t c2 h
      refine a_iconst (v := 0) dX10_wordLength_18 (by decide) ?_
      exact a_iret dX10_wordLength_19 rfl (hR _ _ h)
    · replace h := ite_f c2 h
      refine a_stWL dX10_wordLength_10 sf_X10_336 ?_
      refine a_iload_n dX10_wordLength_13 rfl rfl ?_
      obtain ⟨gi3, h⟩ := gd_t h
      refine a_ldWL dX10_wordLength_14 gi3 ?_
      refine a_goto 19 dX10_wordLength_15 (by decide) ?_
      exact a_iret dX10_wordLength_19 rfl (hR _ _ h)
noncomputable def b_X10_wordLength (n : Nat) (x0 : Int32) (M : Mem) : Option (Int32 × Mem) := T_X10_wordLength_0 (fun v M => some (v, M)) none n x0 M
set_option maxHeartbeats 4000000 in
set_option maxRecDepth 100000 in
theorem sb_X10_wordLength {X : Nat × (Nat → Int32)} {al : Bool} {n : Nat} {x0 : Int32} {M : Mem} {v : Int32} {M1 : Mem} (h : b_X10_wordLength n x0 M = some (v, M1)) : AE yX10_wordLength cX10_wordLength 1 (some .int) al n X [.int x0] M (some (.int v)) M1 := by
  refine AM.of false (by decide +kernel) (by intro h; cases h) (Nat.le_of_ble_eq_true rfl) ?_
  have h2 : T_X10_wordLength_0 (fun v2 M2 => some (v2, M2) = some (v, M1)) (none = some (v, M1)) n x0 M := (n_X10_wordLength_0 (fun o => o = some (v, M1)) (fun v M => some (v, M)) none n x0 M).mp h
  have h3 : ((none : Option (Int32 × Mem)) = some (v, M1)) = False := eq_false (by intro q; cases q)
  rw [h3] at h2
  exact w_X10_wordLength_0 (fun v2 M2 h => by cases h; exact ⟨rfl, rfl⟩) h2

noncomputable abbrev f_X10_wordLength := b_X10_wordLength
theorem s_X10_wordLength {X : Nat × (Nat → Int32)} {al : Bool} {n : Nat} {x0 : Int32} {M : Mem} {v : Int32} {M1 : Mem} (h : f_X10_wordLength n x0 M = some (v, M1)) : AE yX10_wordLength cX10_wordLength 1 (some .int) al n X [.int x0] M (some (.int v)) M1 := sb_X10_wordLength h
set_option maxHeartbeats 4000000 in
set_option maxRecDepth 100000 in
noncomputable def T_X1_bytesOf_0.{u} {α : Sort u} (R : Int64 → Mem → α) (N : α) (n : Nat) (a0 : Nat) (x1 : Int32) (M : Mem) : α := if x1 < 0 then R 0 M else gd (fO M a0 1) N (if (M.2.2.1 a0 7) ≤ x1 then R 0 M else bnd (M.2.2.2.2 a0 3) N (fun r5 => gd (fA M r5 2 x1) N (R (M.2.2.2.1 r5 (x1.toNatClampNeg)) M)))
set_option maxHeartbeats 4000000 in
set_option maxRecDepth 100000 in
theorem n_X1_bytesOf_0.{u, v} {α : Sort u} {β : Sort v} (h : α → β) (R : Int64 → Mem → α) (N : α) (n : Nat) (a0 : Nat) (x1 : Int32) (M : Mem) : h (T_X1_bytesOf_0 R N n a0 x1 M) = T_X1_bytesOf_0 (fun v M => h (R v M)) (h N) n a0 x1 M := by
  simp only [T_X1_bytesOf_0, nat_ite h, nat_gd h, nat_bnd h, nat_bnd2 h]
set_option maxHeartbeats 4000000 in
set_option maxRecDepth 100000 in
theorem w_X1_bytesOf_0 {X : Nat × (Nat → Int32)} {al : Bool} {n : Nat} {Q : Option Value → Mem → Prop} {R : Int64 → Mem → Prop} (hR : ∀ v M, R v M → Q (some (.long v)) M) {a0 : Nat} {x1 : Int32} {M : Mem} (h : T_X1_bytesOf_0 R False n a0 x1 M) : AW X (RX1, cX1_bytesOf, 2, (some .long), false, al, n) 0 0 0 [(0, .ref a0), (1, .int x1)] [] M Q := by
  unfold T_X1_bytesOf_0 at h
  refine a_iload_n dX1_bytesOf_0 rfl rfl ?_
  refine a_if_lt 21 dX1_bytesOf_1 (by decide) (fun c1 => ?_) (fun c1 => ?_)
  · replace h := ite_t c1 h
    refine a_lconst (v := 0) dX1_bytesOf_21 (by decide) ?_
    exact a_lret dX1_bytesOf_22 rfl (hR _ _ h)
  · replace h := ite_f c1 h
    refine a_iload_n dX1_bytesOf_4 rfl rfl ?_
    refine a_aload_n dX1_bytesOf_5 rfl rfl ?_
    obtain ⟨⟨ga2, gs3⟩, h⟩ := gd_t h
    refine a_get (v := .int (M.2.2.1 a0 7)) dX1_bytesOf_6 fl_1_38 ga2 gs3 rfl ?_
    refine a_icmp_ge 21 dX1_bytesOf_9 (by decide) (fun c4 => ?_) (fun c4 => ?_)
    · replace h := ite_t c4 h
      refine a_lconst (v := 0) dX1_bytesOf_21 (by decide) ?_
      exact a_lret dX1_bytesOf_22 rfl (hR _ _ h)
    · replace h := ite_f c4 h
      refine a_aload_n dX1_bytesOf_12 rfl rfl ?_
      obtain ⟨r5, e6, h⟩ := bnd_t h
      refine a_get (v := .ref r5) dX1_bytesOf_13 fl_1_21 ga2 gs3 (gvR e6 rfl) ?_
      refine a_iload_n dX1_bytesOf_16 rfl rfl ?_
      obtain ⟨⟨ga7, gn8, gs9, gi10⟩, h⟩ := gd_t h
      refine a_laload dX1_bytesOf_17 ga7 gs9 gi10 ?_
      refine a_goto 22 dX1_bytesOf_18 (by decide) ?_
      exact a_lret dX1_bytesOf_22 rfl (hR _ _ h)
noncomputable def b_X1_bytesOf (n : Nat) (a0 : Nat) (x1 : Int32) (M : Mem) : Option (Int64 × Mem) := T_X1_bytesOf_0 (fun v M => some (v, M)) none n a0 x1 M
set_option maxHeartbeats 4000000 in
set_option maxRecDepth 100000 in
theorem sb_X1_bytesOf {X : Nat × (Nat → Int32)} {al : Bool} {n : Nat} {a0 : Nat} {x1 : Int32} {M : Mem} {v : Int64} {M1 : Mem} (h : b_X1_bytesOf n a0 x1 M = some (v, M1)) : AE yX1_bytesOf cX1_bytesOf 2 (some .long) al n X [.ref a0, .int x1] M (some (.long v)) M1 := by
  refine AM.of false (by decide +kernel) (by intro h; cases h) (Nat.le_of_ble_eq_true rfl) ?_
  have h2 : T_X1_bytesOf_0 (fun v2 M2 => some (v2, M2) = some (v, M1)) (none = some (v, M1)) n a0 x1 M := (n_X1_bytesOf_0 (fun o => o = some (v, M1)) (fun v M => some (v, M)) none n a0 x1 M).mp h
  have h3 : ((none : Option (Int64 × Mem)) = some (v, M1)) = False := eq_false (by intro q; cases q)
  rw [h3] at h2
  exact w_X1_bytesOf_0 (fun v2 M2 h => by cases h; exact ⟨rfl, rfl⟩) h2

noncomputable abbrev f_X1_bytesOf := b_X1_bytesOf
theorem s_X1_bytesOf {X : Nat × (Nat → Int32)} {al : Bool} {n : Nat} {a0 : Nat} {x1 : Int32} {M : Mem} {v : Int64} {M1 : Mem} (h : f_X1_bytesOf n a0 x1 M = some (v, M1)) : AE yX1_bytesOf cX1_bytesOf 2 (some .long) al n X [.ref a0, .int x1] M (some (.long v)) M1 := sb_X1_bytesOf h
def ix_X1_make (c : Nat) : List Nat := if c = 0 then [0, 1, 2, 3] else if c = 29 then [0, 1, 2, 3, 4, 5, 6] else if c = 102 then [0, 1, 2, 3, 4] else []
def PW_X1_make (X : Nat × (Nat → Int32)) (al : Bool) (n : Nat) (Q : Option Value → Mem → Prop) (c : Nat) (l : List Value) (M : Mem) : Prop := AW X (RX1, cX1_make, 7, (some .int), false, al, n) 0 0 c (List.zip (ix_X1_make c) l) (l.drop (ix_X1_make c).length) M Q
set_option maxHeartbeats 4000000 in
set_option maxRecDepth 100000 in
noncomputable def T_X1_make_0.{u} {α : Sort u} (J : Nat → List Value → Mem → α) (R : Int32 → Mem → α) (N : α) (n : Nat) (a0 : Nat) (x1 : Int32) (x2 : Int32) (x3 : Int32) (M : Mem) : α := gd (fO M a0 1) N (bnd (M.2.2.2.2 a0 6) N (fun r3 => gd (fA M r3 1 (((((x1 * 31) + x2) * 31) + x3) &&& 1023)) N (J 29 [.ref a0, .int x1, .int x2, .int x3, .int (((((x1 * 31) + x2) * 31) + x3) &&& 1023), .int (M.2.2.1 r3 ((((((x1 * 31) + x2) * 31) + x3) &&& 1023).toNatClampNeg)), .int 0] M)))
set_option maxHeartbeats 4000000 in
set_option maxRecDepth 100000 in
theorem n_X1_make_0.{u, v} {α : Sort u} {β : Sort v} (h : α → β) (J : Nat → List Value → Mem → α) (R : Int32 → Mem → α) (N : α) (n : Nat) (a0 : Nat) (x1 : Int32) (x2 : Int32) (x3 : Int32) (M : Mem) : h (T_X1_make_0 J R N n a0 x1 x2 x3 M) = T_X1_make_0 (fun c l M => h (J c l M)) (fun v M => h (R v M)) (h N) n a0 x1 x2 x3 M := by
  simp only [T_X1_make_0, nat_ite h, nat_gd h, nat_bnd h, nat_bnd2 h]
set_option maxHeartbeats 4000000 in
set_option maxRecDepth 100000 in
theorem w_X1_make_0 {X : Nat × (Nat → Int32)} {al : Bool} {n : Nat} {Q : Option Value → Mem → Prop} {J : Nat → List Value → Mem → Prop} (hJ : ∀ c l M, J c l M → PW_X1_make X al n Q c l M) {R : Int32 → Mem → Prop} (hR : ∀ v M, R v M → Q (some (.int v)) M) {a0 : Nat} {x1 : Int32} {x2 : Int32} {x3 : Int32} {M : Mem} (h : T_X1_make_0 J R False n a0 x1 x2 x3 M) : AW X (RX1, cX1_make, 7, (some .int), false, al, n) 0 0 0 [(0, .ref a0), (1, .int x1), (2, .int x2), (3, .int x3)] [] M Q := by
  unfold T_X1_make_0 at h
  refine a_iload_n dX1_make_0 rfl rfl ?_
  refine a_bipush (v := 31) dX1_make_1 (by decide) ?_
  refine a_imul dX1_make_3 ?_
  refine a_iload_n dX1_make_4 rfl rfl ?_
  refine a_iadd dX1_make_5 ?_
  refine a_bipush (v := 31) dX1_make_6 (by decide) ?_
  refine a_imul dX1_make_8 ?_
  refine a_iload_n dX1_make_9 rfl rfl ?_
  refine a_iadd dX1_make_10 ?_
  refine a_sipush (v := 1023) dX1_make_11 (by decide) ?_
  refine a_iand dX1_make_14 ?_
  refine a_istore dX1_make_15 (Nat.le_of_ble_eq_true rfl) (lv2 := [(4, .int (((((x1 * 31) + x2) * 31) + x3) &&& 1023)), (0, .ref a0), (1, .int x1), (2, .int x2), (3, .int x3)]) rfl ?_
  refine a_aload_n dX1_make_17 rfl rfl ?_
  obtain ⟨⟨ga1, gs2⟩, h⟩ := gd_t h
  obtain ⟨r3, e4, h⟩ := bnd_t h
  refine a_get (v := .ref r3) dX1_make_18 fl_1_31 ga1 gs2 (gvR e4 rfl) ?_
  refine a_iload dX1_make_21 rfl ?_
  obtain ⟨⟨ga5, gn6, gs7, gi8⟩, h⟩ := gd_t h
  refine a_iaload dX1_make_23 ga5 gs7 gi8 ?_
  refine a_istore dX1_make_24 (Nat.le_of_ble_eq_true rfl) (lv2 := [(5, .int (M.2.2.1 r3 ((((((x1 * 31) + x2) * 31) + x3) &&& 1023).toNatClampNeg))), (4, .int (((((x1 * 31) + x2) * 31) + x3) &&& 1023)), (0, .ref a0), (1, .int x1), (2, .int x2), (3, .int x3)]) rfl ?_
  refine a_iconst (v := 0) dX1_make_26 (by decide) ?_
  refine a_istore dX1_make_27 (Nat.le_of_ble_eq_true rfl) (lv2 := [(6, .int 0), (5, .int (M.2.2.1 r3 ((((((x1 * 31) + x2) * 31) + x3) &&& 1023).toNatClampNeg))), (4, .int (((((x1 * 31) + x2) * 31) + x3) &&& 1023)), (0, .ref a0), (1, .int x1), (2, .int x2), (3, .int x3)]) rfl ?_
  exact a_lv (lv2 := [(0, .ref a0), (1, .int x1), (2, .int x2), (3, .int x3), (4, .int (((((x1 * 31) + x2) * 31) + x3) &&& 1023)), (5, .int (M.2.2.1 r3 ((((((x1 * 31) + x2) * 31) + x3) &&& 1023).toNatClampNeg))), (6, .int 0)]) (fa_cons rfl (fa_cons rfl (fa_cons rfl (fa_cons rfl (fa_cons rfl (fa_cons rfl (fa_cons rfl fa_nil))))))) (hJ _ _ _ h)
set_option maxHeartbeats 4000000 in
set_option maxRecDepth 100000 in
noncomputable def T_X1_make_29.{u} {α : Sort u} (J : Nat → List Value → Mem → α) (R : Int32 → Mem → α) (N : α) (n : Nat) (a0 : Nat) (x1 : Int32) (x2 : Int32) (x3 : Int32) (x4 : Int32) (x5 : Int32) (x6 : Int32) (M : Mem) : α := if 5200 ≤ x6 then J 102 [.ref a0, .int x1, .int x2, .int x3, .int x4] M else if x5 < 0 then J 102 [.ref a0, .int x1, .int x2, .int x3, .int x4] M else gd (fO M a0 1) N (if (M.2.2.1 a0 7) ≤ x5 then J 102 [.ref a0, .int x1, .int x2, .int x3, .int x4] M else bnd (M.2.2.2.2 a0 0) N (fun r6 => gd (fA M r6 1 x5) N (if (M.2.2.1 r6 (x5.toNatClampNeg)) = x1 then bnd (M.2.2.2.2 a0 1) N (fun r19 => gd (fA M r19 1 x5) N (if (M.2.2.1 r19 (x5.toNatClampNeg)) = x2 then bnd (M.2.2.2.2 a0 2) N (fun r32 => gd (fA M r32 1 x5) N (if (M.2.2.1 r32 (x5.toNatClampNeg)) = x3 then R x5 M else bnd (M.2.2.2.2 a0 4) N (fun r39 => gd (fA M r39 1 x5) N (J 29 [.ref a0, .int x1, .int x2, .int x3, .int x4, .int (M.2.2.1 r39 (x5.toNatClampNeg)), .int (x6 + 1)] M)))) else bnd (M.2.2.2.2 a0 4) N (fun r26 => gd (fA M r26 1 x5) N (J 29 [.ref a0, .int x1, .int x2, .int x3, .int x4, .int (M.2.2.1 r26 (x5.toNatClampNeg)), .int (x6 + 1)] M)))) else bnd (M.2.2.2.2 a0 4) N (fun r13 => gd (fA M r13 1 x5) N (J 29 [.ref a0, .int x1, .int x2, .int x3, .int x4, .int (M.2.2.1 r13 (x5.toNatClampNeg)), .int (x6 + 1)] M)))))
set_option maxHeartbeats 4000000 in
set_option maxRecDepth 100000 in
theorem n_X1_make_29.{u, v} {α : Sort u} {β : Sort v} (h : α → β) (J : Nat → List Value → Mem → α) (R : Int32 → Mem → α) (N : α) (n : Nat) (a0 : Nat) (x1 : Int32) (x2 : Int32) (x3 : Int32) (x4 : Int32) (x5 : Int32) (x6 : Int32) (M : Mem) : h (T_X1_make_29 J R N n a0 x1 x2 x3 x4 x5 x6 M) = T_X1_make_29 (fun c l M => h (J c l M)) (fun v M => h (R v M)) (h N) n a0 x1 x2 x3 x4 x5 x6 M := by
  simp only [T_X1_make_29, nat_ite h, nat_gd h, nat_bnd h, nat_bnd2 h]
set_option maxHeartbeats 4000000 in
set_option maxRecDepth 100000 in
theorem w_X1_make_29 {X : Nat × (Nat → Int32)} {al : Bool} {n : Nat} {Q : Option Value → Mem → Prop} {J : Nat → List Value → Mem → Prop} (hJ : ∀ c l M, J c l M → PW_X1_make X al n Q c l M) {R : Int32 → Mem → Prop} (hR : ∀ v M, R v M → Q (some (.int v)) M) {a0 : Nat} {x1 : Int32} {x2 : Int32} {x3 : Int32} {x4 : Int32} {x5 : Int32} {x6 : Int32} {M : Mem} (h : T_X1_make_29 J R False n a0 x1 x2 x3 x4 x5 x6 M) : AW X (RX1, cX1_make, 7, (some .int), false, al, n) 0 0 29 [(0, .ref a0), (1, .int x1), (2, .int x2), (3, .int x3), (4, .int x4), (5, .int x5), (6, .int x6)] [] M Q := by
  unfold T_X1_make_29 at h
  refine a_iload dX1_make_29 rfl ?_
  refine a_sipush (v := 5200) dX1_make_31 (by decide) ?_
  refine a_icmp_ge 102 dX1_make_34 (by decide) (fun c1 => ?_) (fun c1 => ?_)
  · replace h := ite_t c1 h
    exact a_lv (lv2 := [(0, .ref a0), (1, .int x1), (2, .int x2), (3, .int x3), (4, .int x4)]) (fa_cons rfl (fa_cons rfl (fa_cons rfl (fa_cons rfl (fa_cons rfl fa_nil))))) (hJ _ _ _ h)
  · replace h := ite_f c1 h
    refine a_iload dX1_make_37 rfl ?_
    refine a_if_lt 102 dX1_make_39 (by decide) (fun c2 => ?_) (fun c2 => ?_)
    · replace h := ite_t c2 h
      exact a_lv (lv2 := [(0, .ref a0), (1, .int x1), (2, .int x2), (3, .int x3), (4, .int x4)]) (fa_cons rfl (fa_cons rfl (fa_cons rfl (fa_cons rfl (fa_cons rfl fa_nil))))) (hJ _ _ _ h)
    · replace h := ite_f c2 h
      refine a_iload dX1_make_42 rfl ?_
      refine a_aload_n dX1_make_44 rfl rfl ?_
      obtain ⟨⟨ga3, gs4⟩, h⟩ := gd_t h
      refine a_get (v := .int (M.2.2.1 a0 7)) dX1_make_45 fl_1_38 ga3 gs4 rfl ?_
      refine a_icmp_ge 102 dX1_make_48 (by decide) (fun c5 => ?_) (fun c5 => ?_)
      · replace h := ite_t c5 h
        exact a_lv (lv2 := [(0, .ref a0), (1, .int x1), (2, .int x2), (3, .int x3), (4, .int x4)]) (fa_cons rfl (fa_cons rfl (fa_cons rfl (fa_cons rfl (fa_cons rfl fa_nil))))) (hJ _ _ _ h)
      · replace h := ite_f c5 h
        refine a_aload_n dX1_make_51 rfl rfl ?_
        obtain ⟨r6, e7, h⟩ := bnd_t h
        refine a_get (v := .ref r6) dX1_make_52 fl_1_11 ga3 gs4 (gvR e7 rfl) ?_
        refine a_iload dX1_make_55 rfl ?_
        obtain ⟨⟨ga8, gn9, gs10, gi11⟩, h⟩ := gd_t h
        refine a_iaload dX1_make_57 ga8 gs10 gi11 ?_
        refine a_iload_n dX1_make_58 rfl rfl ?_
        refine a_icmp_ne 87 dX1_make_59 (by decide) (fun c12 => ?_) (fun c12 => ?_)
        · replace h := ite_f c12 h
          refine a_aload_n dX1_make_87 rfl rfl ?_
          obtain ⟨r13, e14, h⟩ := bnd_t h
          refine a_get (v := .ref r13) dX1_make_88 fl_1_25 ga3 gs4 (gvR e14 rfl) ?_
          refine a_iload dX1_make_91 rfl ?_
          obtain ⟨⟨ga15, gn16, gs17, gi18⟩, h⟩ := gd_t h
          refine a_iaload dX1_make_93 ga15 gs17 gi18 ?_
          refine a_istore dX1_make_94 (Nat.le_of_ble_eq_true rfl) (lv2 := [(5, .int (M.2.2.1 r13 (x5.toNatClampNeg))), (0, .ref a0), (1, .int x1), (2, .int x2), (3, .int x3), (4, .int x4), (6, .int x6)]) rfl ?_
          refine a_iinc (v := (x6 + 1)) dX1_make_96 rfl (by first | rfl | decide) (Nat.le_of_ble_eq_true rfl) (lv2 := [(6, .int (x6 + 1)), (5, .int (M.2.2.1 r13 (x5.toNatClampNeg))), (0, .ref a0), (1, .int x1), (2, .int x2), (3, .int x3), (4, .int x4)]) rfl ?_
          refine a_goto 29 dX1_make_99 (by decide) ?_
          exact a_lv (lv2 := [(0, .ref a0), (1, .int x1), (2, .int x2), (3, .int x3), (4, .int x4), (5, .int (M.2.2.1 r13 (x5.toNatClampNeg))), (6, .int (x6 + 1))]) (fa_cons rfl (fa_cons rfl (fa_cons rfl (fa_cons rfl (fa_cons rfl (fa_cons rfl (fa_cons rfl fa_nil))))))) (hJ _ _ _ h)
        · replace h := ite_t c12 h
          refine a_aload_n dX1_make_62 rfl rfl ?_
          obtain ⟨r19, e20, h⟩ := bnd_t h
          refine a_get (v := .ref r19) dX1_make_63 fl_1_15 ga3 gs4 (gvR e20 rfl) ?_
          refine a_iload dX1_make_66 rfl ?_
          obtain ⟨⟨ga21, gn22, gs23, gi24⟩, h⟩ := gd_t h
          refine a_iaload dX1_make_68 ga21 gs23 gi24 ?_
          refine a_iload_n dX1_make_69 rfl rfl ?_
          refine a_icmp_ne 87 dX1_make_70 (by decide) (fun c25 => ?_) (fun c25 => ?_)
          · replace h := ite_f c25 h
            refine a_aload_n dX1_make_87 rfl rfl ?_
            obtain ⟨r26, e27, h⟩ := bnd_t h
            refine a_get (v := .ref r26) dX1_make_88 fl_1_25 ga3 gs4 (gvR e27 rfl) ?_
            refine a_iload dX1_make_91 rfl ?_
            obtain ⟨⟨ga28, gn29, gs30, gi31⟩, h⟩ := gd_t h
            refine a_iaload dX1_make_93 ga28 gs30 gi31 ?_
            refine a_istore dX1_make_94 (Nat.le_of_ble_eq_true rfl) (lv2 := [(5, .int (M.2.2.1 r26 (x5.toNatClampNeg))), (0, .ref a0), (1, .int x1), (2, .int x2), (3, .int x3), (4, .int x4), (6, .int x6)]) rfl ?_
            refine a_iinc (v := (x6 + 1)) dX1_make_96 rfl (by first | rfl | decide) (Nat.le_of_ble_eq_true rfl) (lv2 := [(6, .int (x6 + 1)), (5, .int (M.2.2.1 r26 (x5.toNatClampNeg))), (0, .ref a0), (1, .int x1), (2, .int x2), (3, .int x3), (4, .int x4)]) rfl ?_
            refine a_goto 29 dX1_make_99 (by decide) ?_
            exact a_lv (lv2 := [(0, .ref a0), (1, .int x1), (2, .int x2), (3, .int x3), (4, .int x4), (5, .int (M.2.2.1 r26 (x5.toNatClampNeg))), (6, .int (x6 + 1))]) (fa_cons rfl (fa_cons rfl (fa_cons rfl (fa_cons rfl (fa_cons rfl (fa_cons rfl (fa_cons rfl fa_nil))))))) (hJ _ _ _ h)
          · replace h := ite_t c25 h
            refine a_aload_n dX1_make_73 rfl rfl ?_
            obtain ⟨r32, e33, h⟩ := bnd_t h
            refine a_get (v := .ref r32) dX1_make_74 fl_1_18 ga3 gs4 (gvR e33 rfl) ?_
            refine a_iload dX1_make_77 rfl ?_
            obtain ⟨⟨ga34, gn35, gs36, gi37⟩, h⟩ := gd_t h
            refine a_iaload dX1_make_79 ga34 gs36 gi37 ?_
            refine a_iload_n dX1_make_80 rfl rfl ?_
            refine a_icmp_ne 87 dX1_make_81 (by decide) (fun c38 => ?_) (fun c38 => ?_)
            · replace h := ite_f c38 h
              refine a_aload_n dX1_make_87 rfl rfl ?_
              obtain ⟨r39, e40, h⟩ := bnd_t h
              refine a_get (v := .ref r39) dX1_make_88 fl_1_25 ga3 gs4 (gvR e40 rfl) ?_
              refine a_iload dX1_make_91 rfl ?_
              obtain ⟨⟨ga41, gn42, gs43, gi44⟩, h⟩ := gd_t h
              refine a_iaload dX1_make_93 ga41 gs43 gi44 ?_
              refine a_istore dX1_make_94 (Nat.le_of_ble_eq_true rfl) (lv2 := [(5, .int (M.2.2.1 r39 (x5.toNatClampNeg))), (0, .ref a0), (1, .int x1), (2, .int x2), (3, .int x3), (4, .int x4), (6, .int x6)]) rfl ?_
              refine a_iinc (v := (x6 + 1)) dX1_make_96 rfl (by first | rfl | decide) (Nat.le_of_ble_eq_true rfl) (lv2 := [(6, .int (x6 + 1)), (5, .int (M.2.2.1 r39 (x5.toNatClampNeg))), (0, .ref a0), (1, .int x1), (2, .int x2), (3, .int x3), (4, .int x4)]) rfl ?_
              refine a_goto 29 dX1_make_99 (by decide) ?_
              exact a_lv (lv2 := [(0, .ref a0), (1, .int x1), (2, .int x2), (3, .int x3), (4, .int x4), (5, .int (M.2.2.1 r39 (x5.toNatClampNeg))), (6, .int (x6 + 1))]) (fa_cons rfl (fa_cons rfl (fa_cons rfl (fa_cons rfl (fa_cons rfl (fa_cons rfl (fa_cons rfl fa_nil))))))) (hJ _ _ _ h)
            · replace h := ite_t c38 h
              refine a_iload dX1_make_84 rfl ?_
              exact a_iret dX1_make_86 rfl (hR _ _ h)
set_option maxHeartbeats 4000000 in
set_option maxRecDepth 100000 in
noncomputable def T_X1_make_102.{u} {α : Sort u} (J : Nat → List Value → Mem → α) (R : Int32 → Mem → α) (N : α) (n : Nat) (a0 : Nat) (x1 : Int32) (x2 : Int32) (x3 : Int32) (x4 : Int32) (M : Mem) : α := gd (fO M a0 1) N (if (M.2.2.1 a0 7) < 5200 then bnd (M.2.2.2.2 a0 0) N (fun r4 => gd (fA M r4 1 (M.2.2.1 a0 7)) N (bnd (M.2.2.2.2 a0 1) N (fun r10 => gd (fA M r10 1 (M.2.2.1 a0 7)) N (bnd (M.2.2.2.2 a0 2) N (fun r16 => gd (fA M r16 1 (M.2.2.1 a0 7)) N (bnd (M.2.2.2.2 a0 3) N (fun r22 => bnd2 (cal n (fun n => f_X10_wordLength n x1 (wI (wI (wI M r4 ((M.2.2.1 a0 7).toNatClampNeg) x1) r10 ((M.2.2.1 a0 7).toNatClampNeg) x2) r16 ((M.2.2.1 a0 7).toNatClampNeg) x3))) N (fun v24 M25 => gd (fO M25 a0 1) N (bnd2 (cal n (fun n => f_X1_bytesOf n a0 x2 M25)) N (fun v31 M32 => gd (fO M32 a0 1) N (bnd2 (cal n (fun n => f_X1_bytesOf n a0 x3 M32)) N (fun v38 M39 => gd (fA M39 r22 2 (M.2.2.1 a0 7)) N (gd (fO M39 a0 1) N (bnd (M39.2.2.2.2 a0 4) N (fun r49 => bnd (M39.2.2.2.2 a0 6) N (fun r51 => gd (fA M39 r51 1 x4) N (gd (fA M39 r49 1 (M.2.2.1 a0 7)) N (R (M.2.2.1 a0 7) (wI (wI (wI (wJ M39 r22 ((M.2.2.1 a0 7).toNatClampNeg) (((Int32.toInt64 (v24 + 2)) + v31) + v38)) r49 ((M.2.2.1 a0 7).toNatClampNeg) (M39.2.2.1 r51 (x4.toNatClampNeg))) r51 (x4.toNatClampNeg) (M.2.2.1 a0 7)) a0 7 (((wI (wI M39 r49 ((M.2.2.1 a0 7).toNatClampNeg) (M39.2.2.1 r51 (x4.toNatClampNeg))) r51 (x4.toNatClampNeg) (M.2.2.1 a0 7)).2.2.1 a0 7) + 1)))))))))))))))))))) else R 8 M)
set_option maxHeartbeats 4000000 in
set_option maxRecDepth 100000 in
theorem n_X1_make_102.{u, v} {α : Sort u} {β : Sort v} (h : α → β) (J : Nat → List Value → Mem → α) (R : Int32 → Mem → α) (N : α) (n : Nat) (a0 : Nat) (x1 : Int32) (x2 : Int32) (x3 : Int32) (x4 : Int32) (M : Mem) : h (T_X1_make_102 J R N n a0 x1 x2 x3 x4 M) = T_X1_make_102 (fun c l M => h (J c l M)) (fun v M => h (R v M)) (h N) n a0 x1 x2 x3 x4 M := by
  simp only [T_X1_make_102, nat_ite h, nat_gd h, nat_bnd h, nat_bnd2 h]
set_option maxHeartbeats 4000000 in
set_option maxRecDepth 100000 in
theorem w_X1_make_102 {X : Nat × (Nat → Int32)} {al : Bool} {n : Nat} {Q : Option Value → Mem → Prop} {J : Nat → List Value → Mem → Prop} (hJ : ∀ c l M, J c l M → PW_X1_make X al n Q c l M) {R : Int32 → Mem → Prop} (hR : ∀ v M, R v M → Q (some (.int v)) M) {a0 : Nat} {x1 : Int32} {x2 : Int32} {x3 : Int32} {x4 : Int32} {M : Mem} (h : T_X1_make_102 J R False n a0 x1 x2 x3 x4 M) : AW X (RX1, cX1_make, 7, (some .int), false, al, n) 0 0 102 [(0, .ref a0), (1, .int x1), (2, .int x2), (3, .int x3), (4, .int x4)] [] M Q := by
  unfold T_X1_make_102 at h
  refine a_aload_n dX1_make_102 rfl rfl ?_
  obtain ⟨⟨ga1, gs2⟩, h⟩ := gd_t h
  refine a_get (v := .int (M.2.2.1 a0 7)) dX1_make_103 fl_1_38 ga1 gs2 rfl ?_
  refine a_sipush (v := 5200) dX1_make_106 (by decide) ?_
  refine a_icmp_lt 115 dX1_make_109 (by decide) (fun c3 => ?_) (fun c3 => ?_)
  · replace h := ite_t c3 h
    refine a_aload_n dX1_make_115 rfl rfl ?_
    refine a_get (v := .int (M.2.2.1 a0 7)) dX1_make_116 fl_1_38 ga1 gs2 rfl ?_
    refine a_istore dX1_make_119 (Nat.le_of_ble_eq_true rfl) (lv2 := [(6, .int (M.2.2.1 a0 7)), (0, .ref a0), (1, .int x1), (2, .int x2), (3, .int x3), (4, .int x4)]) rfl ?_
    refine a_aload_n dX1_make_121 rfl rfl ?_
    obtain ⟨r4, e5, h⟩ := bnd_t h
    refine a_get (v := .ref r4) dX1_make_122 fl_1_11 ga1 gs2 (gvR e5 rfl) ?_
    refine a_iload dX1_make_125 rfl ?_
    refine a_iload_n dX1_make_127 rfl rfl ?_
    obtain ⟨⟨ga6, gn7, gs8, gi9⟩, h⟩ := gd_t h
    refine a_iastore dX1_make_128 ga6 gs8 gi9 ?_
    refine a_aload_n dX1_make_129 rfl rfl ?_
    obtain ⟨r10, e11, h⟩ := bnd_t h
    refine a_get (v := .ref r10) dX1_make_130 fl_1_15 ga1 gs2 (gvR e11 rfl) ?_
    refine a_iload dX1_make_133 rfl ?_
    refine a_iload_n dX1_make_135 rfl rfl ?_
    obtain ⟨⟨ga12, gn13, gs14, gi15⟩, h⟩ := gd_t h
    refine a_iastore dX1_make_136 ga12 gs14 gi15 ?_
    refine a_aload_n dX1_make_137 rfl rfl ?_
    obtain ⟨r16, e17, h⟩ := bnd_t h
    refine a_get (v := .ref r16) dX1_make_138 fl_1_18 ga1 gs2 (gvR e17 rfl) ?_
    refine a_iload dX1_make_141 rfl ?_
    refine a_iload_n dX1_make_143 rfl rfl ?_
    obtain ⟨⟨ga18, gn19, gs20, gi21⟩, h⟩ := gd_t h
    refine a_iastore dX1_make_144 ga18 gs20 gi21 ?_
    refine a_aload_n dX1_make_145 rfl rfl ?_
    obtain ⟨r22, e23, h⟩ := bnd_t h
    refine a_get (v := .ref r22) dX1_make_146 fl_1_21 ga1 gs2 (gvR e23 rfl) ?_
    refine a_iload dX1_make_149 rfl ?_
    refine a_iload_n dX1_make_151 rfl rfl ?_
    obtain ⟨v24, M25, e26, h⟩ := bnd2_t h
    obtain ⟨n27, en28, e26⟩ := cal_t e26
    refine e_callS (As := [.int x1]) (st := [.int (M.2.2.1 a0 7), .ref r22]) true dX1_make_152 mw_X10_wordLength (Or.inr ⟨rfl, mn_X1_34⟩) sm_X10_wordLength rfl (Nat.le_of_ble_eq_true rfl) en28 (s_X10_wordLength e26) ?_
    refine a_iconst (v := 2) dX1_make_155 (by decide) ?_
    refine a_iadd dX1_make_156 ?_
    refine a_i2l dX1_make_157 ?_
    refine a_aload_n dX1_make_158 rfl rfl ?_
    refine a_iload_n dX1_make_159 rfl rfl ?_
    obtain ⟨⟨ga29, gs30⟩, h⟩ := gd_t h
    obtain ⟨v31, M32, e33, h⟩ := bnd2_t h
    obtain ⟨n34, en35, e33⟩ := cal_t e33
    refine e_callV (As := [.int x2]) (st := [.long (Int32.toInt64 (v24 + 2)), .int (M.2.2.1 a0 7), .ref r22]) (a := a0) (ci := 1) false dX1_make_160 mw_X1_bytesOf (Or.inl ⟨rfl, ml_X1_42⟩) im_X1_bytesOf se_X1_bytesOf (by decide) ga29 gs30 rfl (Nat.le_of_ble_eq_true rfl) en35 (s_X1_bytesOf e33) ?_
    refine a_ladd dX1_make_163 ?_
    refine a_aload_n dX1_make_164 rfl rfl ?_
    refine a_iload_n dX1_make_165 rfl rfl ?_
    obtain ⟨⟨ga36, gs37⟩, h⟩ := gd_t h
    obtain ⟨v38, M39, e40, h⟩ := bnd2_t h
    obtain ⟨n41, en42, e40⟩ := cal_t e40
    refine e_callV (As := [.int x3]) (st := [.long ((Int32.toInt64 (v24 + 2)) + v31), .int (M.2.2.1 a0 7), .ref r22]) (a := a0) (ci := 1) false dX1_make_166 mw_X1_bytesOf (Or.inl ⟨rfl, ml_X1_42⟩) im_X1_bytesOf se_X1_bytesOf (by decide) ga36 gs37 rfl (Nat.le_of_ble_eq_true rfl) en42 (s_X1_bytesOf e40) ?_
    refine a_ladd dX1_make_169 ?_
    obtain ⟨⟨ga43, gn44, gs45, gi46⟩, h⟩ := gd_t h
    refine a_lastore dX1_make_170 ga43 gs45 gi46 ?_
    refine a_aload_n dX1_make_171 rfl rfl ?_
    obtain ⟨⟨ga47, gs48⟩, h⟩ := gd_t h
    obtain ⟨r49, e50, h⟩ := bnd_t h
    refine a_get (v := .ref r49) dX1_make_172 fl_1_25 ga47 gs48 (gvR e50 rfl) ?_
    refine a_iload dX1_make_175 rfl ?_
    refine a_aload_n dX1_make_177 rfl rfl ?_
    obtain ⟨r51, e52, h⟩ := bnd_t h
    refine a_get (v := .ref r51) dX1_make_178 fl_1_31 ga47 gs48 (gvR e52 rfl) ?_
    refine a_iload dX1_make_181 rfl ?_
    obtain ⟨⟨ga53, gn54, gs55, gi56⟩, h⟩ := gd_t h
    refine a_iaload dX1_make_183 ga53 gs55 gi56 ?_
    obtain ⟨⟨ga57, gn58, gs59, gi60⟩, h⟩ := gd_t h
    refine a_iastore dX1_make_184 ga57 gs59 gi60 ?_
    refine a_aload_n dX1_make_185 rfl rfl ?_
    refine a_get (v := .ref r51) dX1_make_186 fl_1_31 ga47 gs48 (gvR e52 rfl) ?_
    refine a_iload dX1_make_189 rfl ?_
    refine a_iload dX1_make_191 rfl ?_
    refine a_iastore dX1_make_193 ga53 gs55 gi56 ?_
    refine a_aload_n dX1_make_194 rfl rfl ?_
    refine a_dup dX1_make_195 rfl ?_
    refine a_get (v := .int ((wI (wI M39 r49 ((M.2.2.1 a0 7).toNatClampNeg) (M39.2.2.1 r51 (x4.toNatClampNeg))) r51 (x4.toNatClampNeg) (M.2.2.1 a0 7)).2.2.1 a0 7)) dX1_make_196 fl_1_38 ga47 gs48 rfl ?_
    refine a_iconst (v := 1) dX1_make_199 (by decide) ?_
    refine a_iadd dX1_make_200 ?_
    refine a_putI dX1_make_201 (Or.inl ⟨fl_1_38, Or.inl rfl⟩) rfl ga47 gs48 rfl rfl ?_
    refine a_iload dX1_make_204 rfl ?_
    exact a_iret dX1_make_206 rfl (hR _ _ h)
  · replace h := ite_f c3 h
    refine a_bipush (v := 8) dX1_make_112 (by decide) ?_
    exact a_iret dX1_make_114 rfl (hR _ _ h)
set_option maxHeartbeats 4000000 in
set_option maxRecDepth 100000 in
noncomputable def st_X1_make (n : Nat) (s : Sg) : Option (Sg ⊕ (Int32 × Mem)) := if s.1 = 0 then vR s.2.1 none (fun a0 t => vI t none (fun x1 t => vI t none (fun x2 t => vI t none (fun x3 t => vE t none (T_X1_make_0 (fun c l M => some (.inl (c, l, M))) (fun v M => some (.inr (v, M))) none n a0 x1 x2 x3 s.2.2))))) else if s.1 = 29 then vR s.2.1 none (fun a0 t => vI t none (fun x1 t => vI t none (fun x2 t => vI t none (fun x3 t => vI t none (fun x4 t => vI t none (fun x5 t => vI t none (fun x6 t => vE t none (T_X1_make_29 (fun c l M => some (.inl (c, l, M))) (fun v M => some (.inr (v, M))) none n a0 x1 x2 x3 x4 x5 x6 s.2.2)))))))) else if s.1 = 102 then vR s.2.1 none (fun a0 t => vI t none (fun x1 t => vI t none (fun x2 t => vI t none (fun x3 t => vI t none (fun x4 t => vE t none (T_X1_make_102 (fun c l M => some (.inl (c, l, M))) (fun v M => some (.inr (v, M))) none n a0 x1 x2 x3 x4 s.2.2)))))) else none
noncomputable abbrev g_X1_make_0 (n : Nat) (a0 : Nat) (x1 : Int32) (x2 : Int32) (x3 : Int32) (M : Mem) : Option (Int32 × Mem) := lp (st_X1_make n) (0, [.ref a0, .int x1, .int x2, .int x3], M)
set_option maxHeartbeats 4000000 in
set_option maxRecDepth 100000 in
theorem ge_X1_make_0 (n : Nat) (a0 : Nat) (x1 : Int32) (x2 : Int32) (x3 : Int32) (M : Mem) : g_X1_make_0 n a0 x1 x2 x3 M = T_X1_make_0 (fun c l M => lp (st_X1_make n) (c, l, M)) (fun v M => some (v, M)) none n a0 x1 x2 x3 M := (lp_eq _ _).trans (n_X1_make_0 (lpK (st_X1_make n)) (fun c l M => some (.inl (c, l, M))) (fun v M => some (.inr (v, M))) none n a0 x1 x2 x3 M)
noncomputable abbrev g_X1_make_29 (n : Nat) (a0 : Nat) (x1 : Int32) (x2 : Int32) (x3 : Int32) (x4 : Int32) (x5 : Int32) (x6 : Int32) (M : Mem) : Option (Int32 × Mem) := lp (st_X1_make n) (29, [.ref a0, .int x1, .int x2, .int x3, .int x4, .int x5, .int x6], M)
set_option maxHeartbeats 4000000 in
set_option maxRecDepth 100000 in
theorem ge_X1_make_29 (n : Nat) (a0 : Nat) (x1 : Int32) (x2 : Int32) (x3 : Int32) (x4 : Int32) (x5 : Int32) (x6 : Int32) (M : Mem) : g_X1_make_29 n a0 x1 x2 x3 x4 x5 x6 M = T_X1_make_29 (fun c l M => lp (st_X1_make n) (c, l, M)) (fun v M => some (v, M)) none n a0 x1 x2 x3 x4 x5 x6 M := (lp_eq _ _).trans (n_X1_make_29 (lpK (st_X1_make n)) (fun c l M => some (.inl (c, l, M))) (fun v M => some (.inr (v, M))) none n a0 x1 x2 x3 x4 x5 x6 M)
noncomputable abbrev g_X1_make_102 (n : Nat) (a0 : Nat) (x1 : Int32) (x2 : Int32) (x3 : Int32) (x4 : Int32) (M : Mem) : Option (Int32 × Mem) := lp (st_X1_make n) (102, [.ref a0, .int x1, .int x2, .int x3, .int x4], M)
set_option maxHeartbeats 4000000 in
set_option maxRecDepth 100000 in
theorem ge_X1_make_102 (n : Nat) (a0 : Nat) (x1 : Int32) (x2 : Int32) (x3 : Int32) (x4 : Int32) (M : Mem) : g_X1_make_102 n a0 x1 x2 x3 x4 M = T_X1_make_102 (fun c l M => lp (st_X1_make n) (c, l, M)) (fun v M => some (v, M)) none n a0 x1 x2 x3 x4 M := (lp_eq _ _).trans (n_X1_make_102 (lpK (st_X1_make n)) (fun c l M => some (.inl (c, l, M))) (fun v M => some (.inr (v, M))) none n a0 x1 x2 x3 x4 M)
noncomputable def b_X1_make (n : Nat) (a0 : Nat) (x1 : Int32) (x2 : Int32) (x3 : Int32) (M : Mem) : Option (Int32 × Mem) := g_X1_make_0 n a0 x1 x2 x3 M
set_option maxHeartbeats 4000000 in
set_option maxRecDepth 100000 in
theorem sb_X1_make {X : Nat × (Nat → Int32)} {al : Bool} {n : Nat} {a0 : Nat} {x1 : Int32} {x2 : Int32} {x3 : Int32} {M : Mem} {v : Int32} {M1 : Mem} (h : b_X1_make n a0 x1 x2 x3 M = some (v, M1)) : AE yX1_make cX1_make 7 (some .int) al n X [.ref a0, .int x1, .int x2, .int x3] M (some (.int v)) M1 := by
  refine AM.of false (by decide +kernel) (by intro h; cases h) (Nat.le_of_ble_eq_true rfl) ?_
  refine lp_snd (P := fun s r => PW_X1_make X al n (fun v M2 => v = (some (.int r.1)) ∧ M2 = r.2) s.1 s.2.1 s.2.2) ?_ h
  clear h
  rintro ⟨c, l, M⟩ r h
  unfold st_X1_make at h
  rcases ite_p h with ⟨e, h⟩ | ⟨e, h⟩
  · replace e : c = 0 := e
    subst e
    obtain ⟨a0, tt0, e, h⟩ := vR_p id h
    replace e : l = _ := e
    subst e
    obtain ⟨x1, tt1, e, h⟩ := vI_p id h
    replace e : tt0 = _ := e
    subst e
    obtain ⟨x2, tt2, e, h⟩ := vI_p id h
    replace e : tt1 = _ := e
    subst e
    obtain ⟨x3, tt3, e, h⟩ := vI_p id h
    replace e : tt2 = _ := e
    subst e
    obtain ⟨e, h⟩ := vE_p id h
    replace e : tt3 = [] := e
    subst e
    exact w_X1_make_0 (J := fun c l M => PW_X1_make X al n (fun v M2 => v = (some (.int r.1)) ∧ M2 = r.2) c l M) (R := fun v M => (v, M) = r) (fun _ _ _ h => h) (fun v M h => by cases h; exact ⟨rfl, rfl⟩) ((n_X1_make_0 (lpP (fun (s : Sg) (r : Int32 × Mem) => PW_X1_make X al n (fun v M2 => v = (some (.int r.1)) ∧ M2 = r.2) s.1 s.2.1 s.2.2) r) (fun c l M => some (.inl (c, l, M))) (fun v M => some (.inr (v, M))) none n a0 x1 x2 x3 M).mp h)
  rcases ite_p h with ⟨e, h⟩ | ⟨e, h⟩
  · replace e : c = 29 := e
    subst e
    obtain ⟨a0, tt0, e, h⟩ := vR_p id h
    replace e : l = _ := e
    subst e
    obtain ⟨x1, tt1, e, h⟩ := vI_p id h
    replace e : tt0 = _ := e
    subst e
    obtain ⟨x2, tt2, e, h⟩ := vI_p id h
    replace e : tt1 = _ := e
    subst e
    obtain ⟨x3, tt3, e, h⟩ := vI_p id h
    replace e : tt2 = _ := e
    subst e
    obtain ⟨x4, tt4, e, h⟩ := vI_p id h
    replace e : tt3 = _ := e
    subst e
    obtain ⟨x5, tt5, e, h⟩ := vI_p id h
    replace e : tt4 = _ := e
    subst e
    obtain ⟨x6, tt6, e, h⟩ := vI_p id h
    replace e : tt5 = _ := e
    subst e
    obtain ⟨e, h⟩ := vE_p id h
    replace e : tt6 = [] := e
    subst e
    exact w_X1_make_29 (J := fun c l M => PW_X1_make X al n (fun v M2 => v = (some (.int r.1)) ∧ M2 = r.2) c l M) (R := fun v M => (v, M) = r) (fun _ _ _ h => h) (fun v M h => by cases h; exact ⟨rfl, rfl⟩) ((n_X1_make_29 (lpP (fun (s : Sg) (r : Int32 × Mem) => PW_X1_make X al n (fun v M2 => v = (some (.int r.1)) ∧ M2 = r.2) s.1 s.2.1 s.2.2) r) (fun c l M => some (.inl (c, l, M))) (fun v M => some (.inr (v, M))) none n a0 x1 x2 x3 x4 x5 x6 M).mp h)
  rcases ite_p h with ⟨e, h⟩ | ⟨e, h⟩
  · replace e : c = 102 := e
    subst e
    obtain ⟨a0, tt0, e, h⟩ := vR_p id h
    replace e : l = _ := e
    subst e
    obtain ⟨x1, tt1, e, h⟩ := vI_p id h
    replace e : tt0 = _ := e
    subst e
    obtain ⟨x2, tt2, e, h⟩ := vI_p id h
    replace e : tt1 = _ := e
    subst e
    obtain ⟨x3, tt3, e, h⟩ := vI_p id h
    replace e : tt2 = _ := e
    subst e
    obtain ⟨x4, tt4, e, h⟩ := vI_p id h
    replace e : tt3 = _ := e
    subst e
    obtain ⟨e, h⟩ := vE_p id h
    replace e : tt4 = [] := e
    subst e
    exact w_X1_make_102 (J := fun c l M => PW_X1_make X al n (fun v M2 => v = (some (.int r.1)) ∧ M2 = r.2) c l M) (R := fun v M => (v, M) = r) (fun _ _ _ h => h) (fun v M h => by cases h; exact ⟨rfl, rfl⟩) ((n_X1_make_102 (lpP (fun (s : Sg) (r : Int32 × Mem) => PW_X1_make X al n (fun v M2 => v = (some (.int r.1)) ∧ M2 = r.2) s.1 s.2.1 s.2.2) r) (fun c l M => some (.inl (c, l, M))) (fun v M => some (.inr (v, M))) none n a0 x1 x2 x3 x4 M).mp h)
  · exact h.elim

noncomputable abbrev f_X1_make := b_X1_make
theorem s_X1_make {X : Nat × (Nat → Int32)} {al : Bool} {n : Nat} {a0 : Nat} {x1 : Int32} {x2 : Int32} {x3 : Int32} {M : Mem} {v : Int32} {M1 : Mem} (h : f_X1_make n a0 x1 x2 x3 M = some (v, M1)) : AE yX1_make cX1_make 7 (some .int) al n X [.ref a0, .int x1, .int x2, .int x3] M (some (.int v)) M1 := sb_X1_make h
