/-! METHODS AS FUNCTIONS, written by wip/gen/shallow.py -/
set_option maxHeartbeats 4000000 in
set_option maxRecDepth 100000 in
noncomputable def T_X8_wantsWithin_0.{u} {α : Sort u} (R : Int32 → Mem → α) (N : α) (n : Nat) (a0 : Nat) (j1 : Int64) (M : Mem) : α := gd (fO M a0 8) N (if (lg_cmp (M.2.2.2.1 a0 2) (M.2.2.2.1 a0 3)) < 0 then R 0 M else if 0 ≤ (lg_cmp (M.2.2.2.1 a0 2) ((M.2.2.2.1 a0 3) + j1)) then R 0 M else R 1 M)
set_option maxHeartbeats 4000000 in
set_option maxRecDepth 100000 in
theorem n_X8_wantsWithin_0.{u, v} {α : Sort u} {β : Sort v} (h : α → β) (R : Int32 → Mem → α) (N : α) (n : Nat) (a0 : Nat) (j1 : Int64) (M : Mem) : h (T_X8_wantsWithin_0 R N n a0 j1 M) = T_X8_wantsWithin_0 (fun v M => h (R v M)) (h N) n a0 j1 M := by
  simp only [T_X8_wantsWithin_0, nat_ite h, nat_gd h, nat_bnd h, nat_bnd2 h]
set_option maxHeartbeats 4000000 in
set_option maxRecDepth 100000 in
theorem w_X8_wantsWithin_0 {X : Nat × (Nat → Int32)} {al : Bool} {n : Nat} {Q : Option Value → Mem → Prop} {R : Int32 → Mem → Prop} (hR : ∀ v M, R v M → Q (some (.int v)) M) {a0 : Nat} {j1 : Int64} {M : Mem} (h : T_X8_wantsWithin_0 R False n a0 j1 M) : AW X (RX8, cX8_wantsWithin, 3, (some .boolean), false, al, n) 0 0 0 [(0, .ref a0), (1, .long j1)] [] M Q := by
  unfold T_X8_wantsWithin_0 at h
  refine a_aload_n dX8_wantsWithin_0 rfl rfl ?_
  obtain ⟨⟨ga1, gs2⟩, h⟩ := gd_t h
  refine a_get (v := .long (M.2.2.2.1 a0 2)) dX8_wantsWithin_1 fl_8_19 ga1 gs2 rfl ?_
  refine a_aload_n dX8_wantsWithin_4 rfl rfl ?_
  refine a_get (v := .long (M.2.2.2.1 a0 3)) dX8_wantsWithin_5 fl_8_23 ga1 gs2 rfl ?_
  refine a_lcmp dX8_wantsWithin_8 ?_
  refine a_if_lt 30 dX8_wantsWithin_9 (by decide) (fun c3 => ?_) (fun c3 => ?_)
  · replace h := ite_t c3 h
    refine a_iconst (v := 0) dX8_wantsWithin_30 (by decide) ?_
    exact a_zret dX8_wantsWithin_31 rfl rfl (hR _ _ h)
  · replace h := ite_f c3 h
    refine a_aload_n dX8_wantsWithin_12 rfl rfl ?_
    refine a_get (v := .long (M.2.2.2.1 a0 2)) dX8_wantsWithin_13 fl_8_19 ga1 gs2 rfl ?_
    refine a_aload_n dX8_wantsWithin_16 rfl rfl ?_
    refine a_get (v := .long (M.2.2.2.1 a0 3)) dX8_wantsWithin_17 fl_8_23 ga1 gs2 rfl ?_
    refine a_lload_n dX8_wantsWithin_20 rfl rfl ?_
    refine a_ladd dX8_wantsWithin_21 ?_
    refine a_lcmp dX8_wantsWithin_22 ?_
    refine a_if_ge 30 dX8_wantsWithin_23 (by decide) (fun c4 => ?_) (fun c4 => ?_)
    · replace h := ite_t c4 h
      refine a_iconst (v := 0) dX8_wantsWithin_30 (by decide) ?_
      exact a_zret dX8_wantsWithin_31 rfl rfl (hR _ _ h)
    · replace h := ite_f c4 h
      refine a_iconst (v := 1) dX8_wantsWithin_26 (by decide) ?_
      refine a_goto 31 dX8_wantsWithin_27 (by decide) ?_
      exact a_zret dX8_wantsWithin_31 rfl rfl (hR _ _ h)
noncomputable def b_X8_wantsWithin (n : Nat) (a0 : Nat) (j1 : Int64) (M : Mem) : Option (Int32 × Mem) := T_X8_wantsWithin_0 (fun v M => some (v, M)) none n a0 j1 M
set_option maxHeartbeats 4000000 in
set_option maxRecDepth 100000 in
theorem sb_X8_wantsWithin {X : Nat × (Nat → Int32)} {al : Bool} {n : Nat} {a0 : Nat} {j1 : Int64} {M : Mem} {v : Int32} {M1 : Mem} (h : b_X8_wantsWithin n a0 j1 M = some (v, M1)) : AE yX8_wantsWithin cX8_wantsWithin 3 (some .boolean) al n X [.ref a0, .long j1] M (some (.int v)) M1 := by
  refine AM.of false (by decide +kernel) (by intro h; cases h) (Nat.le_of_ble_eq_true rfl) ?_
  have h2 : T_X8_wantsWithin_0 (fun v2 M2 => some (v2, M2) = some (v, M1)) (none = some (v, M1)) n a0 j1 M := (n_X8_wantsWithin_0 (fun o => o = some (v, M1)) (fun v M => some (v, M)) none n a0 j1 M).mp h
  have h3 : ((none : Option (Int32 × Mem)) = some (v, M1)) = False := eq_false (by intro q; cases q)
  rw [h3] at h2
  exact w_X8_wantsWithin_0 (fun v2 M2 h => by cases h; exact ⟨rfl, rfl⟩) h2

noncomputable abbrev f_X8_wantsWithin := b_X8_wantsWithin
theorem s_X8_wantsWithin {X : Nat × (Nat → Int32)} {al : Bool} {n : Nat} {a0 : Nat} {j1 : Int64} {M : Mem} {v : Int32} {M1 : Mem} (h : f_X8_wantsWithin n a0 j1 M = some (v, M1)) : AE yX8_wantsWithin cX8_wantsWithin 3 (some .boolean) al n X [.ref a0, .long j1] M (some (.int v)) M1 := sb_X8_wantsWithin h
set_option maxHeartbeats 4000000 in
set_option maxRecDepth 100000 in
noncomputable def T_X8_putFormula_0.{u} {α : Sort u} (R : Unit → Mem → α) (N : α) (n : Nat) (a0 : Nat) (x1 : Int32) (M : Mem) : α := gd (fO M a0 8) N (bnd2 (cal n (fun n => f_X8_putBlank n a0 M)) N (fun _ M3 => gd (fO M3 a0 8) N (bnd (M3.2.2.2.2 a0 0) N (fun r9 => gd (fO M3 r9 1) N (bnd2 (cal n (fun n => f_X1_bytesOf n r9 x1 M3)) N (fun v13 M14 => gd (fO M14 a0 8) N (bnd2 (cal n (fun n => f_X8_wantsWithin n a0 v13 M14)) N (fun v20 M21 => if v20 = 0 then gd (fO M21 a0 8) N (R () (wJ M21 a0 3 ((M21.2.2.2.1 a0 3) + v13))) else gd (fO M21 a0 8) N (bnd (M21.2.2.2.2 a0 0) N (fun r30 => gd (fO M21 r30 1) N (bnd2 (cal n (fun n => f_X1_byteAt n r30 x1 ((M21.2.2.2.1 a0 2) - (M21.2.2.2.1 a0 3)) M21)) N (fun v34 M35 => gd (fO M35 a0 8) N (R () (wJ (wI M35 a0 4 v34) a0 3 ((M35.2.2.2.1 a0 3) + v13)))))))))))))))
set_option maxHeartbeats 4000000 in
set_option maxRecDepth 100000 in
theorem n_X8_putFormula_0.{u, v} {α : Sort u} {β : Sort v} (h : α → β) (R : Unit → Mem → α) (N : α) (n : Nat) (a0 : Nat) (x1 : Int32) (M : Mem) : h (T_X8_putFormula_0 R N n a0 x1 M) = T_X8_putFormula_0 (fun v M => h (R v M)) (h N) n a0 x1 M := by
  simp only [T_X8_putFormula_0, nat_ite h, nat_gd h, nat_bnd h, nat_bnd2 h]
set_option maxHeartbeats 4000000 in
set_option maxRecDepth 100000 in
theorem w_X8_putFormula_0 {X : Nat × (Nat → Int32)} {al : Bool} {n : Nat} {Q : Option Value → Mem → Prop} {R : Unit → Mem → Prop} (hR : ∀ v M, R v M → Q none M) {a0 : Nat} {x1 : Int32} {M : Mem} (h : T_X8_putFormula_0 R False n a0 x1 M) : AW X (RX8, cX8_putFormula, 4, none, false, al, n) 0 0 0 [(0, .ref a0), (1, .int x1)] [] M Q := by
  unfold T_X8_putFormula_0 at h
  refine a_aload_n dX8_putFormula_0 rfl rfl ?_
  obtain ⟨⟨ga1, gs2⟩, h⟩ := gd_t h
  obtain ⟨_, M3, e4, h⟩ := bnd2_t h
  obtain ⟨n5, en6, e4⟩ := cal_t e4
  refine e_callV (As := []) (st := []) (a := a0) (ci := 8) false dX8_putFormula_1 mw_X8_putBlank (Or.inl ⟨rfl, ml_X8_30⟩) im_X8_putBlank se_X8_putBlank (by decide) ga1 gs2 rfl (Nat.le_of_ble_eq_true rfl) en6 (s_X8_putBlank e4) ?_
  refine a_aload_n dX8_putFormula_4 rfl rfl ?_
  obtain ⟨⟨ga7, gs8⟩, h⟩ := gd_t h
  obtain ⟨r9, e10, h⟩ := bnd_t h
  refine a_get (v := .ref r9) dX8_putFormula_5 fl_8_9 ga7 gs8 (gvR e10 rfl) ?_
  refine a_iload_n dX8_putFormula_8 rfl rfl ?_
  obtain ⟨⟨ga11, gs12⟩, h⟩ := gd_t h
  obtain ⟨v13, M14, e15, h⟩ := bnd2_t h
  obtain ⟨n16, en17, e15⟩ := cal_t e15
  refine e_callV (As := [.int x1]) (st := []) (a := r9) (ci := 1) false dX8_putFormula_9 mw_X1_bytesOf (Or.inl ⟨rfl, ml_X8_45⟩) im_X1_bytesOf se_X1_bytesOf (by decide) ga11 gs12 rfl (Nat.le_of_ble_eq_true rfl) en17 (s_X1_bytesOf e15) ?_
  refine a_lstore_n dX8_putFormula_12 rfl (Nat.le_of_ble_eq_true rfl) (lv2 := [(2, .long v13), (0, .ref a0), (1, .int x1)]) rfl ?_
  refine a_aload_n dX8_putFormula_13 rfl rfl ?_
  refine a_lload_n dX8_putFormula_14 rfl rfl ?_
  obtain ⟨⟨ga18, gs19⟩, h⟩ := gd_t h
  obtain ⟨v20, M21, e22, h⟩ := bnd2_t h
  obtain ⟨n23, en24, e22⟩ := cal_t e22
  refine e_callV (As := [.long v13]) (st := []) (a := a0) (ci := 8) false dX8_putFormula_15 mw_X8_wantsWithin (Or.inl ⟨rfl, ml_X8_37⟩) im_X8_wantsWithin se_X8_wantsWithin (by decide) ga18 gs19 rfl (Nat.le_of_ble_eq_true rfl) en24 (s_X8_wantsWithin e22) ?_
  refine a_if_eq 42 dX8_putFormula_18 (by decide) (fun c25 => ?_) (fun c25 => ?_)
  · replace h := ite_t c25 h
    refine a_aload_n dX8_putFormula_42 rfl rfl ?_
    refine a_dup dX8_putFormula_43 rfl ?_
    obtain ⟨⟨ga26, gs27⟩, h⟩ := gd_t h
    refine a_get (v := .long (M21.2.2.2.1 a0 3)) dX8_putFormula_44 fl_8_23 ga26 gs27 rfl ?_
    refine a_lload_n dX8_putFormula_47 rfl rfl ?_
    refine a_ladd dX8_putFormula_48 ?_
    refine a_putJ dX8_putFormula_49 (Or.inl ⟨fl_8_23, Or.inl rfl⟩) rfl ga26 gs27 ?_
    exact a_vret dX8_putFormula_52 rfl (hR _ _ h)
  · replace h := ite_f c25 h
    refine a_aload_n dX8_putFormula_21 rfl rfl ?_
    refine a_aload_n dX8_putFormula_22 rfl rfl ?_
    obtain ⟨⟨ga28, gs29⟩, h⟩ := gd_t h
    obtain ⟨r30, e31, h⟩ := bnd_t h
    refine a_get (v := .ref r30) dX8_putFormula_23 fl_8_9 ga28 gs29 (gvR e31 rfl) ?_
    refine a_iload_n dX8_putFormula_26 rfl rfl ?_
    refine a_aload_n dX8_putFormula_27 rfl rfl ?_
    refine a_get (v := .long (M21.2.2.2.1 a0 2)) dX8_putFormula_28 fl_8_19 ga28 gs29 rfl ?_
    refine a_aload_n dX8_putFormula_31 rfl rfl ?_
    refine a_get (v := .long (M21.2.2.2.1 a0 3)) dX8_putFormula_32 fl_8_23 ga28 gs29 rfl ?_
    refine a_lsub dX8_putFormula_35 ?_
    obtain ⟨⟨ga32, gs33⟩, h⟩ := gd_t h
    obtain ⟨v34, M35, e36, h⟩ := bnd2_t h
    obtain ⟨n37, en38, e36⟩ := cal_t e36
    refine e_callV (As := [.int x1, .long ((M21.2.2.2.1 a0 2) - (M21.2.2.2.1 a0 3))]) (st := [.ref a0]) (a := r30) (ci := 1) false dX8_putFormula_36 mw_X1_byteAt (Or.inl ⟨rfl, ml_X8_51⟩) im_X1_byteAt se_X1_byteAt (by decide) ga32 gs33 rfl (Nat.le_of_ble_eq_true rfl) en38 (s_X1_byteAt e36) ?_
    obtain ⟨⟨ga39, gs40⟩, h⟩ := gd_t h
    refine a_putI dX8_putFormula_39 (Or.inl ⟨fl_8_26, Or.inl rfl⟩) rfl ga39 gs40 rfl rfl ?_
    refine a_aload_n dX8_putFormula_42 rfl rfl ?_
    refine a_dup dX8_putFormula_43 rfl ?_
    refine a_get (v := .long (M35.2.2.2.1 a0 3)) dX8_putFormula_44 fl_8_23 ga39 gs40 rfl ?_
    refine a_lload_n dX8_putFormula_47 rfl rfl ?_
    refine a_ladd dX8_putFormula_48 ?_
    refine a_putJ dX8_putFormula_49 (Or.inl ⟨fl_8_23, Or.inl rfl⟩) rfl ga39 gs40 ?_
    exact a_vret dX8_putFormula_52 rfl (hR _ _ h)
noncomputable def b_X8_putFormula (n : Nat) (a0 : Nat) (x1 : Int32) (M : Mem) : Option (Unit × Mem) := T_X8_putFormula_0 (fun v M => some (v, M)) none n a0 x1 M
set_option maxHeartbeats 4000000 in
set_option maxRecDepth 100000 in
theorem sb_X8_putFormula {X : Nat × (Nat → Int32)} {al : Bool} {n : Nat} {a0 : Nat} {x1 : Int32} {M : Mem} {v : Unit} {M1 : Mem} (h : b_X8_putFormula n a0 x1 M = some (v, M1)) : AE yX8_putFormula cX8_putFormula 4 none al n X [.ref a0, .int x1] M none M1 := by
  refine AM.of false (by decide +kernel) (by intro h; cases h) (Nat.le_of_ble_eq_true rfl) ?_
  have h2 : T_X8_putFormula_0 (fun v2 M2 => some (v2, M2) = some (v, M1)) (none = some (v, M1)) n a0 x1 M := (n_X8_putFormula_0 (fun o => o = some (v, M1)) (fun v M => some (v, M)) none n a0 x1 M).mp h
  have h3 : ((none : Option (Unit × Mem)) = some (v, M1)) = False := eq_false (by intro q; cases q)
  rw [h3] at h2
  exact w_X8_putFormula_0 (fun v2 M2 h => by cases h; exact ⟨rfl, rfl⟩) h2

noncomputable abbrev f_X8_putFormula := b_X8_putFormula
theorem s_X8_putFormula {X : Nat × (Nat → Int32)} {al : Bool} {n : Nat} {a0 : Nat} {x1 : Int32} {M : Mem} {v : Unit} {M1 : Mem} (h : f_X8_putFormula n a0 x1 M = some (v, M1)) : AE yX8_putFormula cX8_putFormula 4 none al n X [.ref a0, .int x1] M none M1 := sb_X8_putFormula h
def ix_X10_nameLength (c : Nat) : List Nat := if c = 0 then [0] else if c = 4 then [1, 2] else []
def PW_X10_nameLength (X : Nat × (Nat → Int32)) (al : Bool) (n : Nat) (Q : Option Value → Mem → Prop) (c : Nat) (l : List Value) (M : Mem) : Prop := AW X (RX10, cX10_nameLength, 3, (some .int), false, al, n) 0 0 c (List.zip (ix_X10_nameLength c) l) (l.drop (ix_X10_nameLength c).length) M Q
set_option maxHeartbeats 4000000 in
set_option maxRecDepth 100000 in
noncomputable def T_X10_nameLength_0.{u} {α : Sort u} (J : Nat → List Value → Mem → α) (R : Int32 → Mem → α) (N : α) (n : Nat) (x0 : Int32) (M : Mem) : α := J 4 [.int 0, .int x0] M
set_option maxHeartbeats 4000000 in
set_option maxRecDepth 100000 in
theorem n_X10_nameLength_0.{u, v} {α : Sort u} {β : Sort v} (h : α → β) (J : Nat → List Value → Mem → α) (R : Int32 → Mem → α) (N : α) (n : Nat) (x0 : Int32) (M : Mem) : h (T_X10_nameLength_0 J R N n x0 M) = T_X10_nameLength_0 (fun c l M => h (J c l M)) (fun v M => h (R v M)) (h N) n x0 M := by
  simp only [T_X10_nameLength_0, nat_ite h, nat_gd h, nat_bnd h, nat_bnd2 h]
set_option maxHeartbeats 4000000 in
set_option maxRecDepth 100000 in
theorem w_X10_nameLength_0 {X : Nat × (Nat → Int32)} {al : Bool} {n : Nat} {Q : Option Value → Mem → Prop} {J : Nat → List Value → Mem → Prop} (hJ : ∀ c l M, J c l M → PW_X10_nameLength X al n Q c l M) {R : Int32 → Mem → Prop} (hR : ∀ v M, R v M → Q (some (.int v)) M) {x0 : Int32} {M : Mem} (h : T_X10_nameLength_0 J R False n x0 M) : AW X (RX10, cX10_nameLength, 3, (some .int), false, al, n) 0 0 0 [(0, .int x0)] [] M Q := by
  unfold T_X10_nameLength_0 at h
  refine a_iconst (v := 0) dX10_nameLength_0 (by decide) ?_
  refine a_istore_n dX10_nameLength_1 rfl (Nat.le_of_ble_eq_true rfl) (lv2 := [(1, .int 0), (0, .int x0)]) rfl ?_
  refine a_iload_n dX10_nameLength_2 rfl rfl ?_
  refine a_istore_n dX10_nameLength_3 rfl (Nat.le_of_ble_eq_true rfl) (lv2 := [(2, .int x0), (1, .int 0), (0, .int x0)]) rfl ?_
  exact a_lv (lv2 := [(1, .int 0), (2, .int x0)]) (fa_cons rfl (fa_cons rfl fa_nil)) (hJ _ _ _ h)
set_option maxHeartbeats 4000000 in
set_option maxRecDepth 100000 in
noncomputable def T_X10_nameLength_4.{u} {α : Sort u} (J : Nat → List Value → Mem → α) (R : Int32 → Mem → α) (N : α) (n : Nat) (x1 : Int32) (x2 : Int32) (M : Mem) : α := if x2 = 0 then R x1 M else if 4 ≤ x1 then R x1 M else J 4 [.int (x1 + 1), .int (x2 <<< (8 &&& 31))] M
set_option maxHeartbeats 4000000 in
set_option maxRecDepth 100000 in
theorem n_X10_nameLength_4.{u, v} {α : Sort u} {β : Sort v} (h : α → β) (J : Nat → List Value → Mem → α) (R : Int32 → Mem → α) (N : α) (n : Nat) (x1 : Int32) (x2 : Int32) (M : Mem) : h (T_X10_nameLength_4 J R N n x1 x2 M) = T_X10_nameLength_4 (fun c l M => h (J c l M)) (fun v M => h (R v M)) (h N) n x1 x2 M := by
  simp only [T_X10_nameLength_4, nat_ite h, nat_gd h, nat_bnd h, nat_bnd2 h]
set_option maxHeartbeats 4000000 in
set_option maxRecDepth 100000 in
theorem w_X10_nameLength_4 {X : Nat × (Nat → Int32)} {al : Bool} {n : Nat} {Q : Option Value → Mem → Prop} {J : Nat → List Value → Mem → Prop} (hJ : ∀ c l M, J c l M → PW_X10_nameLength X al n Q c l M) {R : Int32 → Mem → Prop} (hR : ∀ v M, R v M → Q (some (.int v)) M) {x1 : Int32} {x2 : Int32} {M : Mem} (h : T_X10_nameLength_4 J R False n x1 x2 M) : AW X (RX10, cX10_nameLength, 3, (some .int), false, al, n) 0 0 4 [(1, .int x1), (2, .int x2)] [] M Q := by
  unfold T_X10_nameLength_4 at h
  refine a_iload_n dX10_nameLength_4 rfl rfl ?_
  refine a_if_eq 24 dX10_nameLength_5 (by decide) (fun c1 => ?_) (fun c1 => ?_)
  · replace h := ite_t c1 h
    refine a_iload_n dX10_nameLength_24 rfl rfl ?_
    exact a_iret dX10_nameLength_25 rfl (hR _ _ h)
  · replace h := ite_f c1 h
    refine a_iload_n dX10_nameLength_8 rfl rfl ?_
    refine a_iconst (v := 4) dX10_nameLength_9 (by decide) ?_
    refine a_icmp_ge 24 dX10_nameLength_10 (by decide) (fun c2 => ?_) (fun c2 => ?_)
    · replace h := ite_t c2 h
      refine a_iload_n dX10_nameLength_24 rfl rfl ?_
      exact a_iret dX10_nameLength_25 rfl (hR _ _ h)
    · replace h := ite_f c2 h
      refine a_iinc (v := (x1 + 1)) dX10_nameLength_13 rfl (by first | rfl | decide) (Nat.le_of_ble_eq_true rfl) (lv2 := [(1, .int (x1 + 1)), (2, .int x2)]) rfl ?_
      refine a_iload_n dX10_nameLength_16 rfl rfl ?_
      refine a_bipush (v := 8) dX10_nameLength_17 (by decide) ?_
      refine a_ishl dX10_nameLength_19 ?_
      refine a_istore_n dX10_nameLength_20 rfl (Nat.le_of_ble_eq_true rfl) (lv2 := [(2, .int (x2 <<< (8 &&& 31))), (1, .int (x1 + 1))]) rfl ?_
      refine a_goto 4 dX10_nameLength_21 (by decide) ?_
      exact a_lv (lv2 := [(1, .int (x1 + 1)), (2, .int (x2 <<< (8 &&& 31)))]) (fa_cons rfl (fa_cons rfl fa_nil)) (hJ _ _ _ h)
set_option maxHeartbeats 4000000 in
set_option maxRecDepth 100000 in
noncomputable def st_X10_nameLength (n : Nat) (s : Sg) : Option (Sg ⊕ (Int32 × Mem)) := if s.1 = 0 then vI s.2.1 none (fun x0 t => vE t none (T_X10_nameLength_0 (fun c l M => some (.inl (c, l, M))) (fun v M => some (.inr (v, M))) none n x0 s.2.2)) else if s.1 = 4 then vI s.2.1 none (fun x1 t => vI t none (fun x2 t => vE t none (T_X10_nameLength_4 (fun c l M => some (.inl (c, l, M))) (fun v M => some (.inr (v, M))) none n x1 x2 s.2.2))) else none
noncomputable abbrev g_X10_nameLength_0 (n : Nat) (x0 : Int32) (M : Mem) : Option (Int32 × Mem) := lp (st_X10_nameLength n) (0, [.int x0], M)
set_option maxHeartbeats 4000000 in
set_option maxRecDepth 100000 in
theorem ge_X10_nameLength_0 (n : Nat) (x0 : Int32) (M : Mem) : g_X10_nameLength_0 n x0 M = T_X10_nameLength_0 (fun c l M => lp (st_X10_nameLength n) (c, l, M)) (fun v M => some (v, M)) none n x0 M := (lp_eq _ _).trans (n_X10_nameLength_0 (lpK (st_X10_nameLength n)) (fun c l M => some (.inl (c, l, M))) (fun v M => some (.inr (v, M))) none n x0 M)
noncomputable abbrev g_X10_nameLength_4 (n : Nat) (x1 : Int32) (x2 : Int32) (M : Mem) : Option (Int32 × Mem) := lp (st_X10_nameLength n) (4, [.int x1, .int x2], M)
set_option maxHeartbeats 4000000 in
set_option maxRecDepth 100000 in
theorem ge_X10_nameLength_4 (n : Nat) (x1 : Int32) (x2 : Int32) (M : Mem) : g_X10_nameLength_4 n x1 x2 M = T_X10_nameLength_4 (fun c l M => lp (st_X10_nameLength n) (c, l, M)) (fun v M => some (v, M)) none n x1 x2 M := (lp_eq _ _).trans (n_X10_nameLength_4 (lpK (st_X10_nameLength n)) (fun c l M => some (.inl (c, l, M))) (fun v M => some (.inr (v, M))) none n x1 x2 M)
noncomputable def b_X10_nameLength (n : Nat) (x0 : Int32) (M : Mem) : Option (Int32 × Mem) := g_X10_nameLength_0 n x0 M
set_option maxHeartbeats 4000000 in
set_option maxRecDepth 100000 in
theorem sb_X10_nameLength {X : Nat × (Nat → Int32)} {al : Bool} {n : Nat} {x0 : Int32} {M : Mem} {v : Int32} {M1 : Mem} (h : b_X10_nameLength n x0 M = some (v, M1)) : AE yX10_nameLength cX10_nameLength 3 (some .int) al n X [.int x0] M (some (.int v)) M1 := by
  refine AM.of false (by decide +kernel) (by intro h; cases h) (Nat.le_of_ble_eq_true rfl) ?_
  refine lp_snd (P := fun s r => PW_X10_nameLength X al n (fun v M2 => v = (some (.int r.1)) ∧ M2 = r.2) s.1 s.2.1 s.2.2) ?_ h
  clear h
  rintro ⟨c, l, M⟩ r h
  unfold st_X10_nameLength at h
  rcases ite_p h with ⟨e, h⟩ | ⟨e, h⟩
  · replace e : c = 0 := e
    subst e
    obtain ⟨x0, tt0, e, h⟩ := vI_p id h
    replace e : l = _ := e
    subst e
    obtain ⟨e, h⟩ := vE_p id h
    replace e : tt0 = [] := e
    subst e
    exact w_X10_nameLength_0 (J := fun c l M => PW_X10_nameLength X al n (fun v M2 => v = (some (.int r.1)) ∧ M2 = r.2) c l M) (R := fun v M => (v, M) = r) (fun _ _ _ h => h) (fun v M h => by cases h; exact ⟨rfl, rfl⟩) ((n_X10_nameLength_0 (lpP (fun (s : Sg) (r : Int32 × Mem) => PW_X10_nameLength X al n (fun v M2 => v = (some (.int r.1)) ∧ M2 = r.2) s.1 s.2.1 s.2.2) r) (fun c l M => some (.inl (c, l, M))) (fun v M => some (.inr (v, M))) none n x0 M).mp h)
  rcases ite_p h with ⟨e, h⟩ | ⟨e, h⟩
  · replace e : c = 4 := e
    subst e
    obtain ⟨x1, tt0, e, h⟩ := vI_p id h
    replace e : l = _ := e
    subst e
    obtain ⟨x2, tt1, e, h⟩ := vI_p id h
    replace e : tt0 = _ := e
    subst e
    obtain ⟨e, h⟩ := vE_p id h
    replace e : tt1 = [] := e
    subst e
    exact w_X10_nameLength_4 (J := fun c l M => PW_X10_nameLength X al n (fun v M2 => v = (some (.int r.1)) ∧ M2 = r.2) c l M) (R := fun v M => (v, M) = r) (fun _ _ _ h => h) (fun v M h => by cases h; exact ⟨rfl, rfl⟩) ((n_X10_nameLength_4 (lpP (fun (s : Sg) (r : Int32 × Mem) => PW_X10_nameLength X al n (fun v M2 => v = (some (.int r.1)) ∧ M2 = r.2) s.1 s.2.1 s.2.2) r) (fun c l M => some (.inl (c, l, M))) (fun v M => some (.inr (v, M))) none n x1 x2 M).mp h)
  · exact h.elim

noncomputable abbrev f_X10_nameLength := b_X10_nameLength
theorem s_X10_nameLength {X : Nat × (Nat → Int32)} {al : Bool} {n : Nat} {x0 : Int32} {M : Mem} {v : Int32} {M1 : Mem} (h : f_X10_nameLength n x0 M = some (v, M1)) : AE yX10_nameLength cX10_nameLength 3 (some .int) al n X [.int x0] M (some (.int v)) M1 := sb_X10_nameLength h
set_option maxHeartbeats 4000000 in
set_option maxRecDepth 100000 in
noncomputable def T_X8_putName_0.{u} {α : Sort u} (R : Unit → Mem → α) (N : α) (n : Nat) (a0 : Nat) (x1 : Int32) (M : Mem) : α := gd (fO M a0 8) N (bnd2 (cal n (fun n => f_X8_putBlank n a0 M)) N (fun _ M3 => bnd2 (cal n (fun n => f_X10_nameLength n x1 M3)) N (fun v7 M8 => gd (fO M8 a0 8) N (bnd2 (cal n (fun n => f_X8_wantsWithin n a0 (Int32.toInt64 v7) M8)) N (fun v14 M15 => if v14 = 0 then gd (fO M15 a0 8) N (R () (wJ M15 a0 3 ((M15.2.2.2.1 a0 3) + (Int32.toInt64 v7)))) else gd (fO M15 a0 8) N (bnd2 (cal n (fun n => f_X10_nameLetter n x1 (Int64.toInt32 ((M15.2.2.2.1 a0 2) - (M15.2.2.2.1 a0 3))) M15)) N (fun v24 M25 => gd (fO M25 a0 8) N (R () (wJ (wI M25 a0 4 v24) a0 3 ((M25.2.2.2.1 a0 3) + (Int32.toInt64 v7)))))))))))
set_option maxHeartbeats 4000000 in
set_option maxRecDepth 100000 in
theorem n_X8_putName_0.{u, v} {α : Sort u} {β : Sort v} (h : α → β) (R : Unit → Mem → α) (N : α) (n : Nat) (a0 : Nat) (x1 : Int32) (M : Mem) : h (T_X8_putName_0 R N n a0 x1 M) = T_X8_putName_0 (fun v M => h (R v M)) (h N) n a0 x1 M := by
  simp only [T_X8_putName_0, nat_ite h, nat_gd h, nat_bnd h, nat_bnd2 h]
set_option maxHeartbeats 4000000 in
set_option maxRecDepth 100000 in
theorem w_X8_putName_0 {X : Nat × (Nat → Int32)} {al : Bool} {n : Nat} {Q : Option Value → Mem → Prop} {R : Unit → Mem → Prop} (hR : ∀ v M, R v M → Q none M) {a0 : Nat} {x1 : Int32} {M : Mem} (h : T_X8_putName_0 R False n a0 x1 M) : AW X (RX8, cX8_putName, 3, none, false, al, n) 0 0 0 [(0, .ref a0), (1, .int x1)] [] M Q := by
  unfold T_X8_putName_0 at h
  refine a_aload_n dX8_putName_0 rfl rfl ?_
  obtain ⟨⟨ga1, gs2⟩, h⟩ := gd_t h
  obtain ⟨_, M3, e4, h⟩ := bnd2_t h
  obtain ⟨n5, en6, e4⟩ := cal_t e4
  refine e_callV (As := []) (st := []) (a := a0) (ci := 8) false dX8_putName_1 mw_X8_putBlank (Or.inl ⟨rfl, ml_X8_30⟩) im_X8_putBlank se_X8_putBlank (by decide) ga1 gs2 rfl (Nat.le_of_ble_eq_true rfl) en6 (s_X8_putBlank e4) ?_
  refine a_iload_n dX8_putName_4 rfl rfl ?_
  obtain ⟨v7, M8, e9, h⟩ := bnd2_t h
  obtain ⟨n10, en11, e9⟩ := cal_t e9
  refine e_callS (As := [.int x1]) (st := []) true dX8_putName_5 mw_X10_nameLength (Or.inr ⟨rfl, mn_X8_55⟩) sm_X10_nameLength rfl (Nat.le_of_ble_eq_true rfl) en11 (s_X10_nameLength e9) ?_
  refine a_istore_n dX8_putName_8 rfl (Nat.le_of_ble_eq_true rfl) (lv2 := [(2, .int v7), (0, .ref a0), (1, .int x1)]) rfl ?_
  refine a_aload_n dX8_putName_9 rfl rfl ?_
  refine a_iload_n dX8_putName_10 rfl rfl ?_
  refine a_i2l dX8_putName_11 ?_
  obtain ⟨⟨ga12, gs13⟩, h⟩ := gd_t h
  obtain ⟨v14, M15, e16, h⟩ := bnd2_t h
  obtain ⟨n17, en18, e16⟩ := cal_t e16
  refine e_callV (As := [.long (Int32.toInt64 v7)]) (st := []) (a := a0) (ci := 8) false dX8_putName_12 mw_X8_wantsWithin (Or.inl ⟨rfl, ml_X8_37⟩) im_X8_wantsWithin se_X8_wantsWithin (by decide) ga12 gs13 rfl (Nat.le_of_ble_eq_true rfl) en18 (s_X8_wantsWithin e16) ?_
  refine a_if_eq 36 dX8_putName_15 (by decide) (fun c19 => ?_) (fun c19 => ?_)
  · replace h := ite_t c19 h
    refine a_aload_n dX8_putName_36 rfl rfl ?_
    refine a_dup dX8_putName_37 rfl ?_
    obtain ⟨⟨ga20, gs21⟩, h⟩ := gd_t h
    refine a_get (v := .long (M15.2.2.2.1 a0 3)) dX8_putName_38 fl_8_23 ga20 gs21 rfl ?_
    refine a_iload_n dX8_putName_41 rfl rfl ?_
    refine a_i2l dX8_putName_42 ?_
    refine a_ladd dX8_putName_43 ?_
    refine a_putJ dX8_putName_44 (Or.inl ⟨fl_8_23, Or.inl rfl⟩) rfl ga20 gs21 ?_
    exact a_vret dX8_putName_47 rfl (hR _ _ h)
  · replace h := ite_f c19 h
    refine a_aload_n dX8_putName_18 rfl rfl ?_
    refine a_iload_n dX8_putName_19 rfl rfl ?_
    refine a_aload_n dX8_putName_20 rfl rfl ?_
    obtain ⟨⟨ga22, gs23⟩, h⟩ := gd_t h
    refine a_get (v := .long (M15.2.2.2.1 a0 2)) dX8_putName_21 fl_8_19 ga22 gs23 rfl ?_
    refine a_aload_n dX8_putName_24 rfl rfl ?_
    refine a_get (v := .long (M15.2.2.2.1 a0 3)) dX8_putName_25 fl_8_23 ga22 gs23 rfl ?_
    refine a_lsub dX8_putName_28 ?_
    refine a_l2i dX8_putName_29 ?_
    obtain ⟨v24, M25, e26, h⟩ := bnd2_t h
    obtain ⟨n27, en28, e26⟩ := cal_t e26
    refine e_callS (As := [.int x1, .int (Int64.toInt32 ((M15.2.2.2.1 a0 2) - (M15.2.2.2.1 a0 3)))]) (st := [.ref a0]) true dX8_putName_30 mw_X10_nameLetter (Or.inr ⟨rfl, mn_X8_58⟩) sm_X10_nameLetter rfl (Nat.le_of_ble_eq_true rfl) en28 (s_X10_nameLetter e26) ?_
    obtain ⟨⟨ga29, gs30⟩, h⟩ := gd_t h
    refine a_putI dX8_putName_33 (Or.inl ⟨fl_8_26, Or.inl rfl⟩) rfl ga29 gs30 rfl rfl ?_
    refine a_aload_n dX8_putName_36 rfl rfl ?_
    refine a_dup dX8_putName_37 rfl ?_
    refine a_get (v := .long (M25.2.2.2.1 a0 3)) dX8_putName_38 fl_8_23 ga29 gs30 rfl ?_
    refine a_iload_n dX8_putName_41 rfl rfl ?_
    refine a_i2l dX8_putName_42 ?_
    refine a_ladd dX8_putName_43 ?_
    refine a_putJ dX8_putName_44 (Or.inl ⟨fl_8_23, Or.inl rfl⟩) rfl ga29 gs30 ?_
    exact a_vret dX8_putName_47 rfl (hR _ _ h)
noncomputable def b_X8_putName (n : Nat) (a0 : Nat) (x1 : Int32) (M : Mem) : Option (Unit × Mem) := T_X8_putName_0 (fun v M => some (v, M)) none n a0 x1 M
set_option maxHeartbeats 4000000 in
set_option maxRecDepth 100000 in
theorem sb_X8_putName {X : Nat × (Nat → Int32)} {al : Bool} {n : Nat} {a0 : Nat} {x1 : Int32} {M : Mem} {v : Unit} {M1 : Mem} (h : b_X8_putName n a0 x1 M = some (v, M1)) : AE yX8_putName cX8_putName 3 none al n X [.ref a0, .int x1] M none M1 := by
  refine AM.of false (by decide +kernel) (by intro h; cases h) (Nat.le_of_ble_eq_true rfl) ?_
  have h2 : T_X8_putName_0 (fun v2 M2 => some (v2, M2) = some (v, M1)) (none = some (v, M1)) n a0 x1 M := (n_X8_putName_0 (fun o => o = some (v, M1)) (fun v M => some (v, M)) none n a0 x1 M).mp h
  have h3 : ((none : Option (Unit × Mem)) = some (v, M1)) = False := eq_false (by intro q; cases q)
  rw [h3] at h2
  exact w_X8_putName_0 (fun v2 M2 h => by cases h; exact ⟨rfl, rfl⟩) h2

noncomputable abbrev f_X8_putName := b_X8_putName
theorem s_X8_putName {X : Nat × (Nat → Int32)} {al : Bool} {n : Nat} {a0 : Nat} {x1 : Int32} {M : Mem} {v : Unit} {M1 : Mem} (h : f_X8_putName n a0 x1 M = some (v, M1)) : AE yX8_putName cX8_putName 3 none al n X [.ref a0, .int x1] M none M1 := sb_X8_putName h
set_option maxHeartbeats 4000000 in
set_option maxRecDepth 100000 in
noncomputable def T_X8_putLevel_0.{u} {α : Sort u} (R : Unit → Mem → α) (N : α) (n : Nat) (a0 : Nat) (x1 : Int32) (M : Mem) : α := if 26 ≤ x1 then gd (fO M a0 8) N (bnd2 (cal n (fun n => f_X8_putName n a0 (((2013265920 : Int32) ||| ((97 + (x1 / 26)) <<< (16 &&& 31))) ||| ((97 + (x1 - x1 / 26 * 26)) <<< (8 &&& 31))) M)) N (fun _ M4 => R () M4)) else gd (fO M a0 8) N (bnd2 (cal n (fun n => f_X8_putName n a0 ((2013265920 : Int32) ||| ((97 + (x1 - x1 / 26 * 26)) <<< (16 &&& 31))) M)) N (fun _ M10 => R () M10))
set_option maxHeartbeats 4000000 in
set_option maxRecDepth 100000 in
theorem n_X8_putLevel_0.{u, v} {α : Sort u} {β : Sort v} (h : α → β) (R : Unit → Mem → α) (N : α) (n : Nat) (a0 : Nat) (x1 : Int32) (M : Mem) : h (T_X8_putLevel_0 R N n a0 x1 M) = T_X8_putLevel_0 (fun v M => h (R v M)) (h N) n a0 x1 M := by
  simp only [T_X8_putLevel_0, nat_ite h, nat_gd h, nat_bnd h, nat_bnd2 h]
set_option maxHeartbeats 4000000 in
set_option maxRecDepth 100000 in
theorem w_X8_putLevel_0 {X : Nat × (Nat → Int32)} {al : Bool} {n : Nat} {Q : Option Value → Mem → Prop} {R : Unit → Mem → Prop} (hR : ∀ v M, R v M → Q none M) {a0 : Nat} {x1 : Int32} {M : Mem} (h : T_X8_putLevel_0 R False n a0 x1 M) : AW X (RX8, cX8_putLevel, 3, none, false, al, n) 0 0 0 [(0, .ref a0), (1, .int x1)] [] M Q := by
  unfold T_X8_putLevel_0 at h
  refine a_bipush (v := 97) dX8_putLevel_0 (by decide) ?_
  refine a_iload_n dX8_putLevel_2 rfl rfl ?_
  refine a_bipush (v := 26) dX8_putLevel_3 (by decide) ?_
  refine a_irem dX8_putLevel_5 (by decide) ?_
  refine a_iadd dX8_putLevel_6 ?_
  refine a_istore_n dX8_putLevel_7 rfl (Nat.le_of_ble_eq_true rfl) (lv2 := [(2, .int (97 + (x1 - x1 / 26 * 26))), (0, .ref a0), (1, .int x1)]) rfl ?_
  refine a_iload_n dX8_putLevel_8 rfl rfl ?_
  refine a_bipush (v := 26) dX8_putLevel_9 (by decide) ?_
  refine a_icmp_ge 28 dX8_putLevel_11 (by decide) (fun c1 => ?_) (fun c1 => ?_)
  · replace h := ite_t c1 h
    refine a_aload_n dX8_putLevel_28 rfl rfl ?_
    refine a_ldc dX8_putLevel_29 co_X8_61 ?_
    refine a_bipush (v := 97) dX8_putLevel_31 (by decide) ?_
    refine a_iload_n dX8_putLevel_33 rfl rfl ?_
    refine a_bipush (v := 26) dX8_putLevel_34 (by decide) ?_
    refine a_idiv dX8_putLevel_36 (by decide) ?_
    refine a_iadd dX8_putLevel_37 ?_
    refine a_bipush (v := 16) dX8_putLevel_38 (by decide) ?_
    refine a_ishl dX8_putLevel_40 ?_
    refine a_ior dX8_putLevel_41 ?_
    refine a_iload_n dX8_putLevel_42 rfl rfl ?_
    refine a_bipush (v := 8) dX8_putLevel_43 (by decide) ?_
    refine a_ishl dX8_putLevel_45 ?_
    refine a_ior dX8_putLevel_46 ?_
    obtain ⟨⟨ga2, gs3⟩, h⟩ := gd_t h
    obtain ⟨_, M4, e5, h⟩ := bnd2_t h
    obtain ⟨n6, en7, e5⟩ := cal_t e5
    refine e_callV (As := [.int (((2013265920 : Int32) ||| ((97 + (x1 / 26)) <<< (16 &&& 31))) ||| ((97 + (x1 - x1 / 26 * 26)) <<< (8 &&& 31)))]) (st := []) (a := a0) (ci := 8) false dX8_putLevel_47 mw_X8_putName (Or.inl ⟨rfl, ml_X8_62⟩) im_X8_putName se_X8_putName (by decide) ga2 gs3 rfl (Nat.le_of_ble_eq_true rfl) en7 (s_X8_putName e5) ?_
    exact a_vret dX8_putLevel_50 rfl (hR _ _ h)
  · replace h := ite_f c1 h
    refine a_aload_n dX8_putLevel_14 rfl rfl ?_
    refine a_ldc dX8_putLevel_15 co_X8_61 ?_
    refine a_iload_n dX8_putLevel_17 rfl rfl ?_
    refine a_bipush (v := 16) dX8_putLevel_18 (by decide) ?_
    refine a_ishl dX8_putLevel_20 ?_
    refine a_ior dX8_putLevel_21 ?_
    obtain ⟨⟨ga8, gs9⟩, h⟩ := gd_t h
    obtain ⟨_, M10, e11, h⟩ := bnd2_t h
    obtain ⟨n12, en13, e11⟩ := cal_t e11
    refine e_callV (As := [.int ((2013265920 : Int32) ||| ((97 + (x1 - x1 / 26 * 26)) <<< (16 &&& 31)))]) (st := []) (a := a0) (ci := 8) false dX8_putLevel_22 mw_X8_putName (Or.inl ⟨rfl, ml_X8_62⟩) im_X8_putName se_X8_putName (by decide) ga8 gs9 rfl (Nat.le_of_ble_eq_true rfl) en13 (s_X8_putName e11) ?_
    refine a_goto 50 dX8_putLevel_25 (by decide) ?_
    exact a_vret dX8_putLevel_50 rfl (hR _ _ h)
noncomputable def b_X8_putLevel (n : Nat) (a0 : Nat) (x1 : Int32) (M : Mem) : Option (Unit × Mem) := T_X8_putLevel_0 (fun v M => some (v, M)) none n a0 x1 M
set_option maxHeartbeats 4000000 in
set_option maxRecDepth 100000 in
theorem sb_X8_putLevel {X : Nat × (Nat → Int32)} {al : Bool} {n : Nat} {a0 : Nat} {x1 : Int32} {M : Mem} {v : Unit} {M1 : Mem} (h : b_X8_putLevel n a0 x1 M = some (v, M1)) : AE yX8_putLevel cX8_putLevel 3 none al n X [.ref a0, .int x1] M none M1 := by
  refine AM.of false (by decide +kernel) (by intro h; cases h) (Nat.le_of_ble_eq_true rfl) ?_
  have h2 : T_X8_putLevel_0 (fun v2 M2 => some (v2, M2) = some (v, M1)) (none = some (v, M1)) n a0 x1 M := (n_X8_putLevel_0 (fun o => o = some (v, M1)) (fun v M => some (v, M)) none n a0 x1 M).mp h
  have h3 : ((none : Option (Unit × Mem)) = some (v, M1)) = False := eq_false (by intro q; cases q)
  rw [h3] at h2
  exact w_X8_putLevel_0 (fun v2 M2 h => by cases h; exact ⟨rfl, rfl⟩) h2

noncomputable abbrev f_X8_putLevel := b_X8_putLevel
theorem s_X8_putLevel {X : Nat × (Nat → Int32)} {al : Bool} {n : Nat} {a0 : Nat} {x1 : Int32} {M : Mem} {v : Unit} {M1 : Mem} (h : f_X8_putLevel n a0 x1 M = some (v, M1)) : AE yX8_putLevel cX8_putLevel 3 none al n X [.ref a0, .int x1] M none M1 := sb_X8_putLevel h
set_option maxHeartbeats 4000000 in
set_option maxRecDepth 100000 in
noncomputable def T_X8_putMeaning_0.{u} {α : Sort u} (R : Unit → Mem → α) (N : α) (n : Nat) (a0 : Nat) (x1 : Int32) (M : Mem) : α := if 0 ≤ x1 then gd (fO M a0 8) N (bnd2 (cal n (fun n => f_X8_putLevel n a0 x1 M)) N (fun _ M4 => R () M4)) else gd (fO M a0 8) N (bnd (M.2.2.2.2 a0 1) N (fun r10 => gd (fO M r10 2) N (bnd2 (cal n (fun n => f_X2_nameOf n r10 ((-1) - x1) M)) N (fun v14 M15 => gd (fO M15 a0 8) N (bnd2 (cal n (fun n => f_X8_putName n a0 v14 M15)) N (fun _ M21 => R () M21))))))
set_option maxHeartbeats 4000000 in
set_option maxRecDepth 100000 in
theorem n_X8_putMeaning_0.{u, v} {α : Sort u} {β : Sort v} (h : α → β) (R : Unit → Mem → α) (N : α) (n : Nat) (a0 : Nat) (x1 : Int32) (M : Mem) : h (T_X8_putMeaning_0 R N n a0 x1 M) = T_X8_putMeaning_0 (fun v M => h (R v M)) (h N) n a0 x1 M := by
  simp only [T_X8_putMeaning_0, nat_ite h, nat_gd h, nat_bnd h, nat_bnd2 h]
set_option maxHeartbeats 4000000 in
set_option maxRecDepth 100000 in
theorem w_X8_putMeaning_0 {X : Nat × (Nat → Int32)} {al : Bool} {n : Nat} {Q : Option Value → Mem → Prop} {R : Unit → Mem → Prop} (hR : ∀ v M, R v M → Q none M) {a0 : Nat} {x1 : Int32} {M : Mem} (h : T_X8_putMeaning_0 R False n a0 x1 M) : AW X (RX8, cX8_putMeaning, 2, none, false, al, n) 0 0 0 [(0, .ref a0), (1, .int x1)] [] M Q := by
  unfold T_X8_putMeaning_0 at h
  refine a_iload_n dX8_putMeaning_0 rfl rfl ?_
  refine a_if_ge 21 dX8_putMeaning_1 (by decide) (fun c1 => ?_) (fun c1 => ?_)
  · replace h := ite_t c1 h
    refine a_aload_n dX8_putMeaning_21 rfl rfl ?_
    refine a_iload_n dX8_putMeaning_22 rfl rfl ?_
    obtain ⟨⟨ga2, gs3⟩, h⟩ := gd_t h
    obtain ⟨_, M4, e5, h⟩ := bnd2_t h
    obtain ⟨n6, en7, e5⟩ := cal_t e5
    refine e_callV (As := [.int x1]) (st := []) (a := a0) (ci := 8) false dX8_putMeaning_23 mw_X8_putLevel (Or.inl ⟨rfl, ml_X8_93⟩) im_X8_putLevel se_X8_putLevel (by decide) ga2 gs3 rfl (Nat.le_of_ble_eq_true rfl) en7 (s_X8_putLevel e5) ?_
    exact a_vret dX8_putMeaning_26 rfl (hR _ _ h)
  · replace h := ite_f c1 h
    refine a_aload_n dX8_putMeaning_4 rfl rfl ?_
    refine a_aload_n dX8_putMeaning_5 rfl rfl ?_
    obtain ⟨⟨ga8, gs9⟩, h⟩ := gd_t h
    obtain ⟨r10, e11, h⟩ := bnd_t h
    refine a_get (v := .ref r10) dX8_putMeaning_6 fl_8_15 ga8 gs9 (gvR e11 rfl) ?_
    refine a_iconst (v := -1) dX8_putMeaning_9 (by decide) ?_
    refine a_iload_n dX8_putMeaning_10 rfl rfl ?_
    refine a_isub dX8_putMeaning_11 ?_
    obtain ⟨⟨ga12, gs13⟩, h⟩ := gd_t h
    obtain ⟨v14, M15, e16, h⟩ := bnd2_t h
    obtain ⟨n17, en18, e16⟩ := cal_t e16
    refine e_callV (As := [.int ((-1) - x1)]) (st := [.ref a0]) (a := r10) (ci := 2) false dX8_putMeaning_12 mw_X2_nameOf (Or.inl ⟨rfl, ml_X8_108⟩) im_X2_nameOf se_X2_nameOf (by decide) ga12 gs13 rfl (Nat.le_of_ble_eq_true rfl) en18 (s_X2_nameOf e16) ?_
    obtain ⟨⟨ga19, gs20⟩, h⟩ := gd_t h
    obtain ⟨_, M21, e22, h⟩ := bnd2_t h
    obtain ⟨n23, en24, e22⟩ := cal_t e22
    refine e_callV (As := [.int v14]) (st := []) (a := a0) (ci := 8) false dX8_putMeaning_15 mw_X8_putName (Or.inl ⟨rfl, ml_X8_62⟩) im_X8_putName se_X8_putName (by decide) ga19 gs20 rfl (Nat.le_of_ble_eq_true rfl) en24 (s_X8_putName e22) ?_
    refine a_goto 26 dX8_putMeaning_18 (by decide) ?_
    exact a_vret dX8_putMeaning_26 rfl (hR _ _ h)
noncomputable def b_X8_putMeaning (n : Nat) (a0 : Nat) (x1 : Int32) (M : Mem) : Option (Unit × Mem) := T_X8_putMeaning_0 (fun v M => some (v, M)) none n a0 x1 M
set_option maxHeartbeats 4000000 in
set_option maxRecDepth 100000 in
theorem sb_X8_putMeaning {X : Nat × (Nat → Int32)} {al : Bool} {n : Nat} {a0 : Nat} {x1 : Int32} {M : Mem} {v : Unit} {M1 : Mem} (h : b_X8_putMeaning n a0 x1 M = some (v, M1)) : AE yX8_putMeaning cX8_putMeaning 2 none al n X [.ref a0, .int x1] M none M1 := by
  refine AM.of false (by decide +kernel) (by intro h; cases h) (Nat.le_of_ble_eq_true rfl) ?_
  have h2 : T_X8_putMeaning_0 (fun v2 M2 => some (v2, M2) = some (v, M1)) (none = some (v, M1)) n a0 x1 M := (n_X8_putMeaning_0 (fun o => o = some (v, M1)) (fun v M => some (v, M)) none n a0 x1 M).mp h
  have h3 : ((none : Option (Unit × Mem)) = some (v, M1)) = False := eq_false (by intro q; cases q)
  rw [h3] at h2
  exact w_X8_putMeaning_0 (fun v2 M2 h => by cases h; exact ⟨rfl, rfl⟩) h2

noncomputable abbrev f_X8_putMeaning := b_X8_putMeaning
theorem s_X8_putMeaning {X : Nat × (Nat → Int32)} {al : Bool} {n : Nat} {a0 : Nat} {x1 : Int32} {M : Mem} {v : Unit} {M1 : Mem} (h : f_X8_putMeaning n a0 x1 M = some (v, M1)) : AE yX8_putMeaning cX8_putMeaning 2 none al n X [.ref a0, .int x1] M none M1 := sb_X8_putMeaning h
set_option maxHeartbeats 4000000 in
set_option maxRecDepth 100000 in
noncomputable def T_X8_putWord_0.{u} {α : Sort u} (R : Unit → Mem → α) (N : α) (n : Nat) (a0 : Nat) (x1 : Int32) (M : Mem) : α := gd (fO M a0 8) N (bnd2 (cal n (fun n => f_X8_putBlank n a0 M)) N (fun _ M3 => bnd2 (cal n (fun n => f_X10_wordLength n x1 M3)) N (fun v7 M8 => gd (fO M8 a0 8) N (bnd2 (cal n (fun n => f_X8_wantsWithin n a0 (Int32.toInt64 v7) M8)) N (fun v14 M15 => if v14 = 0 then gd (fO M15 a0 8) N (R () (wJ M15 a0 3 ((M15.2.2.2.1 a0 3) + (Int32.toInt64 v7)))) else gd (fO M15 a0 8) N (bnd2 (cal n (fun n => f_X10_wordLetter n x1 (Int64.toInt32 ((M15.2.2.2.1 a0 2) - (M15.2.2.2.1 a0 3))) M15)) N (fun v24 M25 => gd (fO M25 a0 8) N (R () (wJ (wI M25 a0 4 v24) a0 3 ((M25.2.2.2.1 a0 3) + (Int32.toInt64 v7)))))))))))
set_option maxHeartbeats 4000000 in
set_option maxRecDepth 100000 in
theorem n_X8_putWord_0.{u, v} {α : Sort u} {β : Sort v} (h : α → β) (R : Unit → Mem → α) (N : α) (n : Nat) (a0 : Nat) (x1 : Int32) (M : Mem) : h (T_X8_putWord_0 R N n a0 x1 M) = T_X8_putWord_0 (fun v M => h (R v M)) (h N) n a0 x1 M := by
  simp only [T_X8_putWord_0, nat_ite h, nat_gd h, nat_bnd h, nat_bnd2 h]
set_option maxHeartbeats 4000000 in
set_option maxRecDepth 100000 in
theorem w_X8_putWord_0 {X : Nat × (Nat → Int32)} {al : Bool} {n : Nat} {Q : Option Value → Mem → Prop} {R : Unit → Mem → Prop} (hR : ∀ v M, R v M → Q none M) {a0 : Nat} {x1 : Int32} {M : Mem} (h : T_X8_putWord_0 R False n a0 x1 M) : AW X (RX8, cX8_putWord, 3, none, false, al, n) 0 0 0 [(0, .ref a0), (1, .int x1)] [] M Q := by
  unfold T_X8_putWord_0 at h
  refine a_aload_n dX8_putWord_0 rfl rfl ?_
  obtain ⟨⟨ga1, gs2⟩, h⟩ := gd_t h
  obtain ⟨_, M3, e4, h⟩ := bnd2_t h
  obtain ⟨n5, en6, e4⟩ := cal_t e4
  refine e_callV (As := []) (st := []) (a := a0) (ci := 8) false dX8_putWord_1 mw_X8_putBlank (Or.inl ⟨rfl, ml_X8_30⟩) im_X8_putBlank se_X8_putBlank (by decide) ga1 gs2 rfl (Nat.le_of_ble_eq_true rfl) en6 (s_X8_putBlank e4) ?_
  refine a_iload_n dX8_putWord_4 rfl rfl ?_
  obtain ⟨v7, M8, e9, h⟩ := bnd2_t h
  obtain ⟨n10, en11, e9⟩ := cal_t e9
  refine e_callS (As := [.int x1]) (st := []) true dX8_putWord_5 mw_X10_wordLength (Or.inr ⟨rfl, mn_X8_33⟩) sm_X10_wordLength rfl (Nat.le_of_ble_eq_true rfl) en11 (s_X10_wordLength e9) ?_
  refine a_istore_n dX8_putWord_8 rfl (Nat.le_of_ble_eq_true rfl) (lv2 := [(2, .int v7), (0, .ref a0), (1, .int x1)]) rfl ?_
  refine a_aload_n dX8_putWord_9 rfl rfl ?_
  refine a_iload_n dX8_putWord_10 rfl rfl ?_
  refine a_i2l dX8_putWord_11 ?_
  obtain ⟨⟨ga12, gs13⟩, h⟩ := gd_t h
  obtain ⟨v14, M15, e16, h⟩ := bnd2_t h
  obtain ⟨n17, en18, e16⟩ := cal_t e16
  refine e_callV (As := [.long (Int32.toInt64 v7)]) (st := []) (a := a0) (ci := 8) false dX8_putWord_12 mw_X8_wantsWithin (Or.inl ⟨rfl, ml_X8_37⟩) im_X8_wantsWithin se_X8_wantsWithin (by decide) ga12 gs13 rfl (Nat.le_of_ble_eq_true rfl) en18 (s_X8_wantsWithin e16) ?_
  refine a_if_eq 36 dX8_putWord_15 (by decide) (fun c19 => ?_) (fun c19 => ?_)
  · replace h := ite_t c19 h
    refine a_aload_n dX8_putWord_36 rfl rfl ?_
    refine a_dup dX8_putWord_37 rfl ?_
    obtain ⟨⟨ga20, gs21⟩, h⟩ := gd_t h
    refine a_get (v := .long (M15.2.2.2.1 a0 3)) dX8_putWord_38 fl_8_23 ga20 gs21 rfl ?_
    refine a_iload_n dX8_putWord_41 rfl rfl ?_
    refine a_i2l dX8_putWord_42 ?_
    refine a_ladd dX8_putWord_43 ?_
    refine a_putJ dX8_putWord_44 (Or.inl ⟨fl_8_23, Or.inl rfl⟩) rfl ga20 gs21 ?_
    exact a_vret dX8_putWord_47 rfl (hR _ _ h)
  · replace h := ite_f c19 h
    refine a_aload_n dX8_putWord_18 rfl rfl ?_
    refine a_iload_n dX8_putWord_19 rfl rfl ?_
    refine a_aload_n dX8_putWord_20 rfl rfl ?_
    obtain ⟨⟨ga22, gs23⟩, h⟩ := gd_t h
    refine a_get (v := .long (M15.2.2.2.1 a0 2)) dX8_putWord_21 fl_8_19 ga22 gs23 rfl ?_
    refine a_aload_n dX8_putWord_24 rfl rfl ?_
    refine a_get (v := .long (M15.2.2.2.1 a0 3)) dX8_putWord_25 fl_8_23 ga22 gs23 rfl ?_
    refine a_lsub dX8_putWord_28 ?_
    refine a_l2i dX8_putWord_29 ?_
    obtain ⟨v24, M25, e26, h⟩ := bnd2_t h
    obtain ⟨n27, en28, e26⟩ := cal_t e26
    refine e_callS (As := [.int x1, .int (Int64.toInt32 ((M15.2.2.2.1 a0 2) - (M15.2.2.2.1 a0 3)))]) (st := [.ref a0]) true dX8_putWord_30 mw_X10_wordLetter (Or.inr ⟨rfl, mn_X8_41⟩) sm_X10_wordLetter rfl (Nat.le_of_ble_eq_true rfl) en28 (s_X10_wordLetter e26) ?_
    obtain ⟨⟨ga29, gs30⟩, h⟩ := gd_t h
    refine a_putI dX8_putWord_33 (Or.inl ⟨fl_8_26, Or.inl rfl⟩) rfl ga29 gs30 rfl rfl ?_
    refine a_aload_n dX8_putWord_36 rfl rfl ?_
    refine a_dup dX8_putWord_37 rfl ?_
    refine a_get (v := .long (M25.2.2.2.1 a0 3)) dX8_putWord_38 fl_8_23 ga29 gs30 rfl ?_
    refine a_iload_n dX8_putWord_41 rfl rfl ?_
    refine a_i2l dX8_putWord_42 ?_
    refine a_ladd dX8_putWord_43 ?_
    refine a_putJ dX8_putWord_44 (Or.inl ⟨fl_8_23, Or.inl rfl⟩) rfl ga29 gs30 ?_
    exact a_vret dX8_putWord_47 rfl (hR _ _ h)
noncomputable def b_X8_putWord (n : Nat) (a0 : Nat) (x1 : Int32) (M : Mem) : Option (Unit × Mem) := T_X8_putWord_0 (fun v M => some (v, M)) none n a0 x1 M
set_option maxHeartbeats 4000000 in
set_option maxRecDepth 100000 in
theorem sb_X8_putWord {X : Nat × (Nat → Int32)} {al : Bool} {n : Nat} {a0 : Nat} {x1 : Int32} {M : Mem} {v : Unit} {M1 : Mem} (h : b_X8_putWord n a0 x1 M = some (v, M1)) : AE yX8_putWord cX8_putWord 3 none al n X [.ref a0, .int x1] M none M1 := by
  refine AM.of false (by decide +kernel) (by intro h; cases h) (Nat.le_of_ble_eq_true rfl) ?_
  have h2 : T_X8_putWord_0 (fun v2 M2 => some (v2, M2) = some (v, M1)) (none = some (v, M1)) n a0 x1 M := (n_X8_putWord_0 (fun o => o = some (v, M1)) (fun v M => some (v, M)) none n a0 x1 M).mp h
  have h3 : ((none : Option (Unit × Mem)) = some (v, M1)) = False := eq_false (by intro q; cases q)
  rw [h3] at h2
  exact w_X8_putWord_0 (fun v2 M2 h => by cases h; exact ⟨rfl, rfl⟩) h2

noncomputable abbrev f_X8_putWord := b_X8_putWord
theorem s_X8_putWord {X : Nat × (Nat → Int32)} {al : Bool} {n : Nat} {a0 : Nat} {x1 : Int32} {M : Mem} {v : Unit} {M1 : Mem} (h : f_X8_putWord n a0 x1 M = some (v, M1)) : AE yX8_putWord cX8_putWord 3 none al n X [.ref a0, .int x1] M none M1 := sb_X8_putWord h
def ix_X8_putTerm (c : Nat) : List Nat := if c = 0 then [0, 1, 2] else if c = 8 then [0, 1, 2, 3, 4] else if c = 77 then [0, 1, 2, 3, 4, 5, 6] else if c = 101 then [0, 1, 2, 3, 4, 5, 6] else if c = 117 then [0, 1, 2, 3, 4, 5, 6] else []
def PW_X8_putTerm (X : Nat × (Nat → Int32)) (al : Bool) (n : Nat) (Q : Option Value → Mem → Prop) (c : Nat) (l : List Value) (M : Mem) : Prop := AW X (RX8, cX8_putTerm, 7, none, false, al, n) 0 0 c (List.zip (ix_X8_putTerm c) l) (l.drop (ix_X8_putTerm c).length) M Q
set_option maxHeartbeats 4000000 in
set_option maxRecDepth 100000 in
noncomputable def T_X8_putTerm_0.{u} {α : Sort u} (J : Nat → List Value → Mem → α) (R : Unit → Mem → α) (N : α) (n : Nat) (a0 : Nat) (a1 : Nat) (x2 : Int32) (M : Mem) : α := gd (fO M a1 3) N (bnd (M.2.2.2.2 a1 2) N (fun r3 => J 8 [.ref a0, .ref a1, .int x2, .ref r3, .int 0] M))
set_option maxHeartbeats 4000000 in
set_option maxRecDepth 100000 in
theorem n_X8_putTerm_0.{u, v} {α : Sort u} {β : Sort v} (h : α → β) (J : Nat → List Value → Mem → α) (R : Unit → Mem → α) (N : α) (n : Nat) (a0 : Nat) (a1 : Nat) (x2 : Int32) (M : Mem) : h (T_X8_putTerm_0 J R N n a0 a1 x2 M) = T_X8_putTerm_0 (fun c l M => h (J c l M)) (fun v M => h (R v M)) (h N) n a0 a1 x2 M := by
  simp only [T_X8_putTerm_0, nat_ite h, nat_gd h, nat_bnd h, nat_bnd2 h]
set_option maxHeartbeats 4000000 in
set_option maxRecDepth 100000 in
theorem w_X8_putTerm_0 {X : Nat × (Nat → Int32)} {al : Bool} {n : Nat} {Q : Option Value → Mem → Prop} {J : Nat → List Value → Mem → Prop} (hJ : ∀ c l M, J c l M → PW_X8_putTerm X al n Q c l M) {R : Unit → Mem → Prop} (hR : ∀ v M, R v M → Q none M) {a0 : Nat} {a1 : Nat} {x2 : Int32} {M : Mem} (h : T_X8_putTerm_0 J R False n a0 a1 x2 M) : AW X (RX8, cX8_putTerm, 7, none, false, al, n) 0 0 0 [(0, .ref a0), (1, .ref a1), (2, .int x2)] [] M Q := by
  unfold T_X8_putTerm_0 at h
  refine a_aload_n dX8_putTerm_0 rfl rfl ?_
  obtain ⟨⟨ga1, gs2⟩, h⟩ := gd_t h
  obtain ⟨r3, e4, h⟩ := bnd_t h
  refine a_getN (v := .ref r3) dX8_putTerm_1 fn_8_66 ga1 gs2 (gvR e4 rfl) ?_
  refine a_astore_n dX8_putTerm_4 rfl (Nat.le_of_ble_eq_true rfl) (lv2 := [(3, .ref r3), (0, .ref a0), (1, .ref a1), (2, .int x2)]) rfl ?_
  refine a_iconst (v := 0) dX8_putTerm_5 (by decide) ?_
  refine a_istore dX8_putTerm_6 (Nat.le_of_ble_eq_true rfl) (lv2 := [(4, .int 0), (3, .ref r3), (0, .ref a0), (1, .ref a1), (2, .int x2)]) rfl ?_
  exact a_lv (lv2 := [(0, .ref a0), (1, .ref a1), (2, .int x2), (3, .ref r3), (4, .int 0)]) (fa_cons rfl (fa_cons rfl (fa_cons rfl (fa_cons rfl (fa_cons rfl fa_nil))))) (hJ _ _ _ h)
set_option maxHeartbeats 4000000 in
set_option maxRecDepth 100000 in
noncomputable def T_X8_putTerm_8.{u} {α : Sort u} (J : Nat → List Value → Mem → α) (R : Unit → Mem → α) (N : α) (n : Nat) (a0 : Nat) (a1 : Nat) (x2 : Int32) (a3 : Nat) (x4 : Int32) (M : Mem) : α := gd (fO M a3 9) N (if (M.2.2.1 a3 2) ≤ x4 then R () M else gd (fO M a0 8) N (if (M.2.2.1 a0 4) = (-1) then bnd2 (cal n (fun n => f_X9_opAt n a3 x4 M)) N (fun v7 M8 => gd (fO M8 a3 9) N (bnd2 (cal n (fun n => f_X9_argAt n a3 x4 M8)) N (fun v14 M15 => gd (fO M15 a1 3) N (bnd2 (cal n (fun n => f_X3_isArm n a1 x4 M15)) N (fun v21 M22 => if v21 = 0 then J 77 [.ref a0, .ref a1, .int x2, .ref a3, .int x4, .int v7, .int v14] M22 else gd (fO M22 a1 3) N (bnd2 (cal n (fun n => f_X3_parentOf n a1 x4 M22)) N (fun v29 M30 => gd (fO M30 a3 9) N (bnd2 (cal n (fun n => f_X9_opAt n a3 v29 M30)) N (fun v36 M37 => if v36 = 9 then gd (fO M37 a1 3) N (bnd2 (cal n (fun n => f_X3_depthOf n a1 x4 M37)) N (fun v44 M45 => gd (fO M45 a0 8) N (bnd2 (cal n (fun n => f_X8_putLevel n a0 (v44 - 1) M45)) N (fun _ M51 => J 77 [.ref a0, .ref a1, .int x2, .ref a3, .int x4, .int v7, .int v14] M51)))) else J 77 [.ref a0, .ref a1, .int x2, .ref a3, .int x4, .int v7, .int v14] M37))))))))) else R () M))
set_option maxHeartbeats 4000000 in
set_option maxRecDepth 100000 in
theorem n_X8_putTerm_8.{u, v} {α : Sort u} {β : Sort v} (h : α → β) (J : Nat → List Value → Mem → α) (R : Unit → Mem → α) (N : α) (n : Nat) (a0 : Nat) (a1 : Nat) (x2 : Int32) (a3 : Nat) (x4 : Int32) (M : Mem) : h (T_X8_putTerm_8 J R N n a0 a1 x2 a3 x4 M) = T_X8_putTerm_8 (fun c l M => h (J c l M)) (fun v M => h (R v M)) (h N) n a0 a1 x2 a3 x4 M := by
  simp only [T_X8_putTerm_8, nat_ite h, nat_gd h, nat_bnd h, nat_bnd2 h]
set_option maxHeartbeats 4000000 in
set_option maxRecDepth 100000 in
theorem w_X8_putTerm_8 {X : Nat × (Nat → Int32)} {al : Bool} {n : Nat} {Q : Option Value → Mem → Prop} {J : Nat → List Value → Mem → Prop} (hJ : ∀ c l M, J c l M → PW_X8_putTerm X al n Q c l M) {R : Unit → Mem → Prop} (hR : ∀ v M, R v M → Q none M) {a0 : Nat} {a1 : Nat} {x2 : Int32} {a3 : Nat} {x4 : Int32} {M : Mem} (h : T_X8_putTerm_8 J R False n a0 a1 x2 a3 x4 M) : AW X (RX8, cX8_putTerm, 7, none, false, al, n) 0 0 8 [(0, .ref a0), (1, .ref a1), (2, .int x2), (3, .ref a3), (4, .int x4)] [] M Q := by
  unfold T_X8_putTerm_8 at h
  refine a_iload dX8_putTerm_8 rfl ?_
  refine a_aload_n dX8_putTerm_10 rfl rfl ?_
  obtain ⟨⟨ga1, gs2⟩, h⟩ := gd_t h
  refine a_getN (v := .int (M.2.2.1 a3 2)) dX8_putTerm_11 fn_8_72 ga1 gs2 rfl ?_
  refine a_icmp_ge 141 dX8_putTerm_14 (by decide) (fun c3 => ?_) (fun c3 => ?_)
  · replace h := ite_t c3 h
    exact a_vret dX8_putTerm_141 rfl (hR _ _ h)
  · replace h := ite_f c3 h
    refine a_aload_n dX8_putTerm_17 rfl rfl ?_
    obtain ⟨⟨ga4, gs5⟩, h⟩ := gd_t h
    refine a_get (v := .int (M.2.2.1 a0 4)) dX8_putTerm_18 fl_8_26 ga4 gs5 rfl ?_
    refine a_iconst (v := -1) dX8_putTerm_21 (by decide) ?_
    refine a_icmp_ne 141 dX8_putTerm_22 (by decide) (fun c6 => ?_) (fun c6 => ?_)
    · replace h := ite_f c6 h
      exact a_vret dX8_putTerm_141 rfl (hR _ _ h)
    · replace h := ite_t c6 h
      refine a_aload_n dX8_putTerm_25 rfl rfl ?_
      refine a_iload dX8_putTerm_26 rfl ?_
      obtain ⟨v7, M8, e9, h⟩ := bnd2_t h
      obtain ⟨n10, en11, e9⟩ := cal_t e9
      refine e_callV (As := [.int x4]) (st := []) (a := a3) (ci := 9) false dX8_putTerm_28 mw_X9_opAt (Or.inl ⟨rfl, ml_X8_77⟩) im_X9_opAt se_X9_opAt (by decide) ga1 gs2 rfl (Nat.le_of_ble_eq_true rfl) en11 (s_X9_opAt e9) ?_
      refine a_istore dX8_putTerm_31 (Nat.le_of_ble_eq_true rfl) (lv2 := [(5, .int v7), (0, .ref a0), (1, .ref a1), (2, .int x2), (3, .ref a3), (4, .int x4)]) rfl ?_
      refine a_aload_n dX8_putTerm_33 rfl rfl ?_
      refine a_iload dX8_putTerm_34 rfl ?_
      obtain ⟨⟨ga12, gs13⟩, h⟩ := gd_t h
      obtain ⟨v14, M15, e16, h⟩ := bnd2_t h
      obtain ⟨n17, en18, e16⟩ := cal_t e16
      refine e_callV (As := [.int x4]) (st := []) (a := a3) (ci := 9) false dX8_putTerm_36 mw_X9_argAt (Or.inl ⟨rfl, ml_X8_80⟩) im_X9_argAt se_X9_argAt (by decide) ga12 gs13 rfl (Nat.le_of_ble_eq_true rfl) en18 (s_X9_argAt e16) ?_
      refine a_istore dX8_putTerm_39 (Nat.le_of_ble_eq_true rfl) (lv2 := [(6, .int v14), (5, .int v7), (0, .ref a0), (1, .ref a1), (2, .int x2), (3, .ref a3), (4, .int x4)]) rfl ?_
      refine a_aload_n dX8_putTerm_41 rfl rfl ?_
      refine a_iload dX8_putTerm_42 rfl ?_
      obtain ⟨⟨ga19, gs20⟩, h⟩ := gd_t h
      obtain ⟨v21, M22, e23, h⟩ := bnd2_t h
      obtain ⟨n24, en25, e23⟩ := cal_t e23
      refine e_callV (As := [.int x4]) (st := []) (a := a1) (ci := 3) false dX8_putTerm_44 mw_X3_isArm (Or.inl ⟨rfl, ml_X8_83⟩) im_X3_isArm se_X3_isArm (by decide) ga19 gs20 rfl (Nat.le_of_ble_eq_true rfl) en25 (s_X3_isArm e23) ?_
      refine a_if_eq 77 dX8_putTerm_47 (by decide) (fun c26 => ?_) (fun c26 => ?_)
      · replace h := ite_t c26 h
        exact a_lv (lv2 := [(0, .ref a0), (1, .ref a1), (2, .int x2), (3, .ref a3), (4, .int x4), (5, .int v7), (6, .int v14)]) (fa_cons rfl (fa_cons rfl (fa_cons rfl (fa_cons rfl (fa_cons rfl (fa_cons rfl (fa_cons rfl fa_nil))))))) (hJ _ _ _ h)
      · replace h := ite_f c26 h
        refine a_aload_n dX8_putTerm_50 rfl rfl ?_
        refine a_aload_n dX8_putTerm_51 rfl rfl ?_
        refine a_iload dX8_putTerm_52 rfl ?_
        obtain ⟨⟨ga27, gs28⟩, h⟩ := gd_t h
        obtain ⟨v29, M30, e31, h⟩ := bnd2_t h
        obtain ⟨n32, en33, e31⟩ := cal_t e31
        refine e_callV (As := [.int x4]) (st := [.ref a3]) (a := a1) (ci := 3) false dX8_putTerm_54 mw_X3_parentOf (Or.inl ⟨rfl, ml_X8_87⟩) im_X3_parentOf se_X3_parentOf (by decide) ga27 gs28 rfl (Nat.le_of_ble_eq_true rfl) en33 (s_X3_parentOf e31) ?_
        obtain ⟨⟨ga34, gs35⟩, h⟩ := gd_t h
        obtain ⟨v36, M37, e38, h⟩ := bnd2_t h
        obtain ⟨n39, en40, e38⟩ := cal_t e38
        refine e_callV (As := [.int v29]) (st := []) (a := a3) (ci := 9) false dX8_putTerm_57 mw_X9_opAt (Or.inl ⟨rfl, ml_X8_77⟩) im_X9_opAt se_X9_opAt (by decide) ga34 gs35 rfl (Nat.le_of_ble_eq_true rfl) en40 (s_X9_opAt e38) ?_
        refine a_bipush (v := 9) dX8_putTerm_60 (by decide) ?_
        refine a_icmp_ne 77 dX8_putTerm_62 (by decide) (fun c41 => ?_) (fun c41 => ?_)
        · replace h := ite_f c41 h
          exact a_lv (lv2 := [(0, .ref a0), (1, .ref a1), (2, .int x2), (3, .ref a3), (4, .int x4), (5, .int v7), (6, .int v14)]) (fa_cons rfl (fa_cons rfl (fa_cons rfl (fa_cons rfl (fa_cons rfl (fa_cons rfl (fa_cons rfl fa_nil))))))) (hJ _ _ _ h)
        · replace h := ite_t c41 h
          refine a_aload_n dX8_putTerm_65 rfl rfl ?_
          refine a_aload_n dX8_putTerm_66 rfl rfl ?_
          refine a_iload dX8_putTerm_67 rfl ?_
          obtain ⟨⟨ga42, gs43⟩, h⟩ := gd_t h
          obtain ⟨v44, M45, e46, h⟩ := bnd2_t h
          obtain ⟨n47, en48, e46⟩ := cal_t e46
          refine e_callV (As := [.int x4]) (st := [.ref a0]) (a := a1) (ci := 3) false dX8_putTerm_69 mw_X3_depthOf (Or.inl ⟨rfl, ml_X8_90⟩) im_X3_depthOf se_X3_depthOf (by decide) ga42 gs43 rfl (Nat.le_of_ble_eq_true rfl) en48 (s_X3_depthOf e46) ?_
          refine a_iconst (v := 1) dX8_putTerm_72 (by decide) ?_
          refine a_isub dX8_putTerm_73 ?_
          obtain ⟨⟨ga49, gs50⟩, h⟩ := gd_t h
          obtain ⟨_, M51, e52, h⟩ := bnd2_t h
          obtain ⟨n53, en54, e52⟩ := cal_t e52
          refine e_callV (As := [.int (v44 - 1)]) (st := []) (a := a0) (ci := 8) false dX8_putTerm_74 mw_X8_putLevel (Or.inl ⟨rfl, ml_X8_93⟩) im_X8_putLevel se_X8_putLevel (by decide) ga49 gs50 rfl (Nat.le_of_ble_eq_true rfl) en54 (s_X8_putLevel e52) ?_
          exact a_lv (lv2 := [(0, .ref a0), (1, .ref a1), (2, .int x2), (3, .ref a3), (4, .int x4), (5, .int v7), (6, .int v14)]) (fa_cons rfl (fa_cons rfl (fa_cons rfl (fa_cons rfl (fa_cons rfl (fa_cons rfl (fa_cons rfl fa_nil))))))) (hJ _ _ _ h)
set_option maxHeartbeats 4000000 in
set_option maxRecDepth 100000 in
noncomputable def T_X8_putTerm_77.{u} {α : Sort u} (J : Nat → List Value → Mem → α) (R : Unit → Mem → α) (N : α) (n : Nat) (a0 : Nat) (a1 : Nat) (x2 : Int32) (a3 : Nat) (x4 : Int32) (x5 : Int32) (x6 : Int32) (M : Mem) : α := if x5 = 1 then gd (fO M a0 8) N (bnd2 (cal n (fun n => f_X8_putMeaning n a0 x6 M)) N (fun _ M10 => J 101 [.ref a0, .ref a1, .int x2, .ref a3, .int x4, .int x5, .int x6] M10)) else gd (fO M a0 8) N (bnd2 (cal n (fun n => f_X8_putWord n a0 (x5 + 11) M)) N (fun _ M4 => J 101 [.ref a0, .ref a1, .int x2, .ref a3, .int x4, .int x5, .int x6] M4))
set_option maxHeartbeats 4000000 in
set_option maxRecDepth 100000 in
theorem n_X8_putTerm_77.{u, v} {α : Sort u} {β : Sort v} (h : α → β) (J : Nat → List Value → Mem → α) (R : Unit → Mem → α) (N : α) (n : Nat) (a0 : Nat) (a1 : Nat) (x2 : Int32) (a3 : Nat) (x4 : Int32) (x5 : Int32) (x6 : Int32) (M : Mem) : h (T_X8_putTerm_77 J R N n a0 a1 x2 a3 x4 x5 x6 M) = T_X8_putTerm_77 (fun c l M => h (J c l M)) (fun v M => h (R v M)) (h N) n a0 a1 x2 a3 x4 x5 x6 M := by
  simp only [T_X8_putTerm_77, nat_ite h, nat_gd h, nat_bnd h, nat_bnd2 h]
set_option maxHeartbeats 4000000 in
set_option maxRecDepth 100000 in
theorem w_X8_putTerm_77 {X : Nat × (Nat → Int32)} {al : Bool} {n : Nat} {Q : Option Value → Mem → Prop} {J : Nat → List Value → Mem → Prop} (hJ : ∀ c l M, J c l M → PW_X8_putTerm X al n Q c l M) {R : Unit → Mem → Prop} (hR : ∀ v M, R v M → Q none M) {a0 : Nat} {a1 : Nat} {x2 : Int32} {a3 : Nat} {x4 : Int32} {x5 : Int32} {x6 : Int32} {M : Mem} (h : T_X8_putTerm_77 J R False n a0 a1 x2 a3 x4 x5 x6 M) : AW X (RX8, cX8_putTerm, 7, none, false, al, n) 0 0 77 [(0, .ref a0), (1, .ref a1), (2, .int x2), (3, .ref a3), (4, .int x4), (5, .int x5), (6, .int x6)] [] M Q := by
  unfold T_X8_putTerm_77 at h
  refine a_iload dX8_putTerm_77 rfl ?_
  refine a_iconst (v := 1) dX8_putTerm_79 (by decide) ?_
  refine a_icmp_ne 92 dX8_putTerm_80 (by decide) (fun c1 => ?_) (fun c1 => ?_)
  · replace h := ite_f c1 h
    refine a_aload_n dX8_putTerm_92 rfl rfl ?_
    refine a_iload dX8_putTerm_93 rfl ?_
    refine a_bipush (v := 11) dX8_putTerm_95 (by decide) ?_
    refine a_iadd dX8_putTerm_97 ?_
    obtain ⟨⟨ga2, gs3⟩, h⟩ := gd_t h
    obtain ⟨_, M4, e5, h⟩ := bnd2_t h
    obtain ⟨n6, en7, e5⟩ := cal_t e5
    refine e_callV (As := [.int (x5 + 11)]) (st := []) (a := a0) (ci := 8) false dX8_putTerm_98 mw_X8_putWord (Or.inl ⟨rfl, ml_X8_99⟩) im_X8_putWord se_X8_putWord (by decide) ga2 gs3 rfl (Nat.le_of_ble_eq_true rfl) en7 (s_X8_putWord e5) ?_
    exact a_lv (lv2 := [(0, .ref a0), (1, .ref a1), (2, .int x2), (3, .ref a3), (4, .int x4), (5, .int x5), (6, .int x6)]) (fa_cons rfl (fa_cons rfl (fa_cons rfl (fa_cons rfl (fa_cons rfl (fa_cons rfl (fa_cons rfl fa_nil))))))) (hJ _ _ _ h)
  · replace h := ite_t c1 h
    refine a_aload_n dX8_putTerm_83 rfl rfl ?_
    refine a_iload dX8_putTerm_84 rfl ?_
    obtain ⟨⟨ga8, gs9⟩, h⟩ := gd_t h
    obtain ⟨_, M10, e11, h⟩ := bnd2_t h
    obtain ⟨n12, en13, e11⟩ := cal_t e11
    refine e_callV (As := [.int x6]) (st := []) (a := a0) (ci := 8) false dX8_putTerm_86 mw_X8_putMeaning (Or.inl ⟨rfl, ml_X8_96⟩) im_X8_putMeaning se_X8_putMeaning (by decide) ga8 gs9 rfl (Nat.le_of_ble_eq_true rfl) en13 (s_X8_putMeaning e11) ?_
    refine a_goto 101 dX8_putTerm_89 (by decide) ?_
    exact a_lv (lv2 := [(0, .ref a0), (1, .ref a1), (2, .int x2), (3, .ref a3), (4, .int x4), (5, .int x5), (6, .int x6)]) (fa_cons rfl (fa_cons rfl (fa_cons rfl (fa_cons rfl (fa_cons rfl (fa_cons rfl (fa_cons rfl fa_nil))))))) (hJ _ _ _ h)
set_option maxHeartbeats 4000000 in
set_option maxRecDepth 100000 in
noncomputable def T_X8_putTerm_101.{u} {α : Sort u} (J : Nat → List Value → Mem → α) (R : Unit → Mem → α) (N : α) (n : Nat) (a0 : Nat) (a1 : Nat) (x2 : Int32) (a3 : Nat) (x4 : Int32) (x5 : Int32) (x6 : Int32) (M : Mem) : α := if x5 = 2 then gd (fO M a1 3) N (bnd2 (cal n (fun n => f_X3_depthOf n a1 x4 M)) N (fun v4 M5 => gd (fO M5 a0 8) N (bnd2 (cal n (fun n => f_X8_putLevel n a0 v4 M5)) N (fun _ M11 => J 117 [.ref a0, .ref a1, .int x2, .ref a3, .int x4, .int x5, .int x6] M11)))) else J 117 [.ref a0, .ref a1, .int x2, .ref a3, .int x4, .int x5, .int x6] M
set_option maxHeartbeats 4000000 in
set_option maxRecDepth 100000 in
theorem n_X8_putTerm_101.{u, v} {α : Sort u} {β : Sort v} (h : α → β) (J : Nat → List Value → Mem → α) (R : Unit → Mem → α) (N : α) (n : Nat) (a0 : Nat) (a1 : Nat) (x2 : Int32) (a3 : Nat) (x4 : Int32) (x5 : Int32) (x6 : Int32) (M : Mem) : h (T_X8_putTerm_101 J R N n a0 a1 x2 a3 x4 x5 x6 M) = T_X8_putTerm_101 (fun c l M => h (J c l M)) (fun v M => h (R v M)) (h N) n a0 a1 x2 a3 x4 x5 x6 M := by
  simp only [T_X8_putTerm_101, nat_ite h, nat_gd h, nat_bnd h, nat_bnd2 h]
set_option maxHeartbeats 4000000 in
set_option maxRecDepth 100000 in
theorem w_X8_putTerm_101 {X : Nat × (Nat → Int32)} {al : Bool} {n : Nat} {Q : Option Value → Mem → Prop} {J : Nat → List Value → Mem → Prop} (hJ : ∀ c l M, J c l M → PW_X8_putTerm X al n Q c l M) {R : Unit → Mem → Prop} (hR : ∀ v M, R v M → Q none M) {a0 : Nat} {a1 : Nat} {x2 : Int32} {a3 : Nat} {x4 : Int32} {x5 : Int32} {x6 : Int32} {M : Mem} (h : T_X8_putTerm_101 J R False n a0 a1 x2 a3 x4 x5 x6 M) : AW X (RX8, cX8_putTerm, 7, none, false, al, n) 0 0 101 [(0, .ref a0), (1, .ref a1), (2, .int x2), (3, .ref a3), (4, .int x4), (5, .int x5), (6, .int x6)] [] M Q := by
  unfold T_X8_putTerm_101 at h
  refine a_iload dX8_putTerm_101 rfl ?_
  refine a_iconst (v := 2) dX8_putTerm_103 (by decide) ?_
  refine a_icmp_ne 117 dX8_putTerm_104 (by decide) (fun c1 => ?_) (fun c1 => ?_)
  · replace h := ite_f c1 h
    exact a_lv (lv2 := [(0, .ref a0), (1, .ref a1), (2, .int x2), (3, .ref a3), (4, .int x4), (5, .int x5), (6, .int x6)]) (fa_cons rfl (fa_cons rfl (fa_cons rfl (fa_cons rfl (fa_cons rfl (fa_cons rfl (fa_cons rfl fa_nil))))))) (hJ _ _ _ h)
  · replace h := ite_t c1 h
    refine a_aload_n dX8_putTerm_107 rfl rfl ?_
    refine a_aload_n dX8_putTerm_108 rfl rfl ?_
    refine a_iload dX8_putTerm_109 rfl ?_
    obtain ⟨⟨ga2, gs3⟩, h⟩ := gd_t h
    obtain ⟨v4, M5, e6, h⟩ := bnd2_t h
    obtain ⟨n7, en8, e6⟩ := cal_t e6
    refine e_callV (As := [.int x4]) (st := [.ref a0]) (a := a1) (ci := 3) false dX8_putTerm_111 mw_X3_depthOf (Or.inl ⟨rfl, ml_X8_90⟩) im_X3_depthOf se_X3_depthOf (by decide) ga2 gs3 rfl (Nat.le_of_ble_eq_true rfl) en8 (s_X3_depthOf e6) ?_
    obtain ⟨⟨ga9, gs10⟩, h⟩ := gd_t h
    obtain ⟨_, M11, e12, h⟩ := bnd2_t h
    obtain ⟨n13, en14, e12⟩ := cal_t e12
    refine e_callV (As := [.int v4]) (st := []) (a := a0) (ci := 8) false dX8_putTerm_114 mw_X8_putLevel (Or.inl ⟨rfl, ml_X8_93⟩) im_X8_putLevel se_X8_putLevel (by decide) ga9 gs10 rfl (Nat.le_of_ble_eq_true rfl) en14 (s_X8_putLevel e12) ?_
    exact a_lv (lv2 := [(0, .ref a0), (1, .ref a1), (2, .int x2), (3, .ref a3), (4, .int x4), (5, .int x5), (6, .int x6)]) (fa_cons rfl (fa_cons rfl (fa_cons rfl (fa_cons rfl (fa_cons rfl (fa_cons rfl (fa_cons rfl fa_nil))))))) (hJ _ _ _ h)
set_option maxHeartbeats 4000000 in
set_option maxRecDepth 100000 in
noncomputable def T_X8_putTerm_117.{u} {α : Sort u} (J : Nat → List Value → Mem → α) (R : Unit → Mem → α) (N : α) (n : Nat) (a0 : Nat) (a1 : Nat) (x2 : Int32) (a3 : Nat) (x4 : Int32) (x5 : Int32) (x6 : Int32) (M : Mem) : α := if x2 = 0 then J 8 [.ref a0, .ref a1, .int x2, .ref a3, .int (x4 + 1)] M else bnd2 (cal n (fun n => f_X10_tellsFormula n x5 M)) N (fun v2 M3 => if v2 = 0 then J 8 [.ref a0, .ref a1, .int x2, .ref a3, .int (x4 + 1)] M3 else gd (fO M3 a0 8) N (bnd2 (cal n (fun n => f_X8_putFormula n a0 x6 M3)) N (fun _ M10 => J 8 [.ref a0, .ref a1, .int x2, .ref a3, .int (x4 + 1)] M10)))
set_option maxHeartbeats 4000000 in
set_option maxRecDepth 100000 in
theorem n_X8_putTerm_117.{u, v} {α : Sort u} {β : Sort v} (h : α → β) (J : Nat → List Value → Mem → α) (R : Unit → Mem → α) (N : α) (n : Nat) (a0 : Nat) (a1 : Nat) (x2 : Int32) (a3 : Nat) (x4 : Int32) (x5 : Int32) (x6 : Int32) (M : Mem) : h (T_X8_putTerm_117 J R N n a0 a1 x2 a3 x4 x5 x6 M) = T_X8_putTerm_117 (fun c l M => h (J c l M)) (fun v M => h (R v M)) (h N) n a0 a1 x2 a3 x4 x5 x6 M := by
  simp only [T_X8_putTerm_117, nat_ite h, nat_gd h, nat_bnd h, nat_bnd2 h]
set_option maxHeartbeats 4000000 in
set_option maxRecDepth 100000 in
theorem w_X8_putTerm_117 {X : Nat × (Nat → Int32)} {al : Bool} {n : Nat} {Q : Option Value → Mem → Prop} {J : Nat → List Value → Mem → Prop} (hJ : ∀ c l M, J c l M → PW_X8_putTerm X al n Q c l M) {R : Unit → Mem → Prop} (hR : ∀ v M, R v M → Q none M) {a0 : Nat} {a1 : Nat} {x2 : Int32} {a3 : Nat} {x4 : Int32} {x5 : Int32} {x6 : Int32} {M : Mem} (h : T_X8_putTerm_117 J R False n a0 a1 x2 a3 x4 x5 x6 M) : AW X (RX8, cX8_putTerm, 7, none, false, al, n) 0 0 117 [(0, .ref a0), (1, .ref a1), (2, .int x2), (3, .ref a3), (4, .int x4), (5, .int x5), (6, .int x6)] [] M Q := by
  unfold T_X8_putTerm_117 at h
  refine a_iload_n dX8_putTerm_117 rfl rfl ?_
  refine a_if_eq 135 dX8_putTerm_118 (by decide) (fun c1 => ?_) (fun c1 => ?_)
  · replace h := ite_t c1 h
    refine a_iinc (v := (x4 + 1)) dX8_putTerm_135 rfl (by first | rfl | decide) (Nat.le_of_ble_eq_true rfl) (lv2 := [(4, .int (x4 + 1)), (0, .ref a0), (1, .ref a1), (2, .int x2), (3, .ref a3), (5, .int x5), (6, .int x6)]) rfl ?_
    refine a_goto 8 dX8_putTerm_138 (by decide) ?_
    exact a_lv (lv2 := [(0, .ref a0), (1, .ref a1), (2, .int x2), (3, .ref a3), (4, .int (x4 + 1))]) (fa_cons rfl (fa_cons rfl (fa_cons rfl (fa_cons rfl (fa_cons rfl fa_nil))))) (hJ _ _ _ h)
  · replace h := ite_f c1 h
    refine a_iload dX8_putTerm_121 rfl ?_
    obtain ⟨v2, M3, e4, h⟩ := bnd2_t h
    obtain ⟨n5, en6, e4⟩ := cal_t e4
    refine e_callS (As := [.int x5]) (st := []) true dX8_putTerm_123 mw_X10_tellsFormula (Or.inr ⟨rfl, mn_X8_102⟩) sm_X10_tellsFormula rfl (Nat.le_of_ble_eq_true rfl) en6 (s_X10_tellsFormula e4) ?_
    refine a_if_eq 135 dX8_putTerm_126 (by decide) (fun c7 => ?_) (fun c7 => ?_)
    · replace h := ite_t c7 h
      refine a_iinc (v := (x4 + 1)) dX8_putTerm_135 rfl (by first | rfl | decide) (Nat.le_of_ble_eq_true rfl) (lv2 := [(4, .int (x4 + 1)), (0, .ref a0), (1, .ref a1), (2, .int x2), (3, .ref a3), (5, .int x5), (6, .int x6)]) rfl ?_
      refine a_goto 8 dX8_putTerm_138 (by decide) ?_
      exact a_lv (lv2 := [(0, .ref a0), (1, .ref a1), (2, .int x2), (3, .ref a3), (4, .int (x4 + 1))]) (fa_cons rfl (fa_cons rfl (fa_cons rfl (fa_cons rfl (fa_cons rfl fa_nil))))) (hJ _ _ _ h)
    · replace h := ite_f c7 h
      refine a_aload_n dX8_putTerm_129 rfl rfl ?_
      refine a_iload dX8_putTerm_130 rfl ?_
      obtain ⟨⟨ga8, gs9⟩, h⟩ := gd_t h
      obtain ⟨_, M10, e11, h⟩ := bnd2_t h
      obtain ⟨n12, en13, e11⟩ := cal_t e11
      refine e_callV (As := [.int x6]) (st := []) (a := a0) (ci := 8) false dX8_putTerm_132 mw_X8_putFormula (Or.inl ⟨rfl, ml_X8_105⟩) im_X8_putFormula se_X8_putFormula (by decide) ga8 gs9 rfl (Nat.le_of_ble_eq_true rfl) en13 (s_X8_putFormula e11) ?_
      refine a_iinc (v := (x4 + 1)) dX8_putTerm_135 rfl (by first | rfl | decide) (Nat.le_of_ble_eq_true rfl) (lv2 := [(4, .int (x4 + 1)), (0, .ref a0), (1, .ref a1), (2, .int x2), (3, .ref a3), (5, .int x5), (6, .int x6)]) rfl ?_
      refine a_goto 8 dX8_putTerm_138 (by decide) ?_
      exact a_lv (lv2 := [(0, .ref a0), (1, .ref a1), (2, .int x2), (3, .ref a3), (4, .int (x4 + 1))]) (fa_cons rfl (fa_cons rfl (fa_cons rfl (fa_cons rfl (fa_cons rfl fa_nil))))) (hJ _ _ _ h)
set_option maxHeartbeats 4000000 in
set_option maxRecDepth 100000 in
noncomputable def st_X8_putTerm (n : Nat) (s : Sg) : Option (Sg ⊕ (Unit × Mem)) := if s.1 = 0 then vR s.2.1 none (fun a0 t => vR t none (fun a1 t => vI t none (fun x2 t => vE t none (T_X8_putTerm_0 (fun c l M => some (.inl (c, l, M))) (fun v M => some (.inr (v, M))) none n a0 a1 x2 s.2.2)))) else if s.1 = 8 then vR s.2.1 none (fun a0 t => vR t none (fun a1 t => vI t none (fun x2 t => vR t none (fun a3 t => vI t none (fun x4 t => vE t none (T_X8_putTerm_8 (fun c l M => some (.inl (c, l, M))) (fun v M => some (.inr (v, M))) none n a0 a1 x2 a3 x4 s.2.2)))))) else if s.1 = 77 then vR s.2.1 none (fun a0 t => vR t none (fun a1 t => vI t none (fun x2 t => vR t none (fun a3 t => vI t none (fun x4 t => vI t none (fun x5 t => vI t none (fun x6 t => vE t none (T_X8_putTerm_77 (fun c l M => some (.inl (c, l, M))) (fun v M => some (.inr (v, M))) none n a0 a1 x2 a3 x4 x5 x6 s.2.2)))))))) else if s.1 = 101 then vR s.2.1 none (fun a0 t => vR t none (fun a1 t => vI t none (fun x2 t => vR t none (fun a3 t => vI t none (fun x4 t => vI t none (fun x5 t => vI t none (fun x6 t => vE t none (T_X8_putTerm_101 (fun c l M => some (.inl (c, l, M))) (fun v M => some (.inr (v, M))) none n a0 a1 x2 a3 x4 x5 x6 s.2.2)))))))) else if s.1 = 117 then vR s.2.1 none (fun a0 t => vR t none (fun a1 t => vI t none (fun x2 t => vR t none (fun a3 t => vI t none (fun x4 t => vI t none (fun x5 t => vI t none (fun x6 t => vE t none (T_X8_putTerm_117 (fun c l M => some (.inl (c, l, M))) (fun v M => some (.inr (v, M))) none n a0 a1 x2 a3 x4 x5 x6 s.2.2)))))))) else none
noncomputable abbrev g_X8_putTerm_0 (n : Nat) (a0 : Nat) (a1 : Nat) (x2 : Int32) (M : Mem) : Option (Unit × Mem) := lp (st_X8_putTerm n) (0, [.ref a0, .ref a1, .int x2], M)
set_option maxHeartbeats 4000000 in
set_option maxRecDepth 100000 in
theorem ge_X8_putTerm_0 (n : Nat) (a0 : Nat) (a1 : Nat) (x2 : Int32) (M : Mem) : g_X8_putTerm_0 n a0 a1 x2 M = T_X8_putTerm_0 (fun c l M => lp (st_X8_putTerm n) (c, l, M)) (fun v M => some (v, M)) none n a0 a1 x2 M := (lp_eq _ _).trans (n_X8_putTerm_0 (lpK (st_X8_putTerm n)) (fun c l M => some (.inl (c, l, M))) (fun v M => some (.inr (v, M))) none n a0 a1 x2 M)
noncomputable abbrev g_X8_putTerm_8 (n : Nat) (a0 : Nat) (a1 : Nat) (x2 : Int32) (a3 : Nat) (x4 : Int32) (M : Mem) : Option (Unit × Mem) := lp (st_X8_putTerm n) (8, [.ref a0, .ref a1, .int x2, .ref a3, .int x4], M)
set_option maxHeartbeats 4000000 in
set_option maxRecDepth 100000 in
theorem ge_X8_putTerm_8 (n : Nat) (a0 : Nat) (a1 : Nat) (x2 : Int32) (a3 : Nat) (x4 : Int32) (M : Mem) : g_X8_putTerm_8 n a0 a1 x2 a3 x4 M = T_X8_putTerm_8 (fun c l M => lp (st_X8_putTerm n) (c, l, M)) (fun v M => some (v, M)) none n a0 a1 x2 a3 x4 M := (lp_eq _ _).trans (n_X8_putTerm_8 (lpK (st_X8_putTerm n)) (fun c l M => some (.inl (c, l, M))) (fun v M => some (.inr (v, M))) none n a0 a1 x2 a3 x4 M)
noncomputable abbrev g_X8_putTerm_77 (n : Nat) (a0 : Nat) (a1 : Nat) (x2 : Int32) (a3 : Nat) (x4 : Int32) (x5 : Int32) (x6 : Int32) (M : Mem) : Option (Unit × Mem) := lp (st_X8_putTerm n) (77, [.ref a0, .ref a1, .int x2, .ref a3, .int x4, .int x5, .int x6], M)
set_option maxHeartbeats 4000000 in
set_option maxRecDepth 100000 in
theorem ge_X8_putTerm_77 (n : Nat) (a0 : Nat) (a1 : Nat) (x2 : Int32) (a3 : Nat) (x4 : Int32) (x5 : Int32) (x6 : Int32) (M : Mem) : g_X8_putTerm_77 n a0 a1 x2 a3 x4 x5 x6 M = T_X8_putTerm_77 (fun c l M => lp (st_X8_putTerm n) (c, l, M)) (fun v M => some (v, M)) none n a0 a1 x2 a3 x4 x5 x6 M := (lp_eq _ _).trans (n_X8_putTerm_77 (lpK (st_X8_putTerm n)) (fun c l M => some (.inl (c, l, M))) (fun v M => some (.inr (v, M))) none n a0 a1 x2 a3 x4 x5 x6 M)
noncomputable abbrev g_X8_putTerm_101 (n : Nat) (a0 : Nat) (a1 : Nat) (x2 : Int32) (a3 : Nat) (x4 : Int32) (x5 : Int32) (x6 : Int32) (M : Mem) : Option (Unit × Mem) := lp (st_X8_putTerm n) (101, [.ref a0, .ref a1, .int x2, .ref a3, .int x4, .int x5, .int x6], M)
set_option maxHeartbeats 4000000 in
set_option maxRecDepth 100000 in
theorem ge_X8_putTerm_101 (n : Nat) (a0 : Nat) (a1 : Nat) (x2 : Int32) (a3 : Nat) (x4 : Int32) (x5 : Int32) (x6 : Int32) (M : Mem) : g_X8_putTerm_101 n a0 a1 x2 a3 x4 x5 x6 M = T_X8_putTerm_101 (fun c l M => lp (st_X8_putTerm n) (c, l, M)) (fun v M => some (v, M)) none n a0 a1 x2 a3 x4 x5 x6 M := (lp_eq _ _).trans (n_X8_putTerm_101 (lpK (st_X8_putTerm n)) (fun c l M => some (.inl (c, l, M))) (fun v M => some (.inr (v, M))) none n a0 a1 x2 a3 x4 x5 x6 M)
noncomputable abbrev g_X8_putTerm_117 (n : Nat) (a0 : Nat) (a1 : Nat) (x2 : Int32) (a3 : Nat) (x4 : Int32) (x5 : Int32) (x6 : Int32) (M : Mem) : Option (Unit × Mem) := lp (st_X8_putTerm n) (117, [.ref a0, .ref a1, .int x2, .ref a3, .int x4, .int x5, .int x6], M)
set_option maxHeartbeats 4000000 in
set_option maxRecDepth 100000 in
theorem ge_X8_putTerm_117 (n : Nat) (a0 : Nat) (a1 : Nat) (x2 : Int32) (a3 : Nat) (x4 : Int32) (x5 : Int32) (x6 : Int32) (M : Mem) : g_X8_putTerm_117 n a0 a1 x2 a3 x4 x5 x6 M = T_X8_putTerm_117 (fun c l M => lp (st_X8_putTerm n) (c, l, M)) (fun v M => some (v, M)) none n a0 a1 x2 a3 x4 x5 x6 M := (lp_eq _ _).trans (n_X8_putTerm_117 (lpK (st_X8_putTerm n)) (fun c l M => some (.inl (c, l, M))) (fun v M => some (.inr (v, M))) none n a0 a1 x2 a3 x4 x5 x6 M)
noncomputable def b_X8_putTerm (n : Nat) (a0 : Nat) (a1 : Nat) (x2 : Int32) (M : Mem) : Option (Unit × Mem) := g_X8_putTerm_0 n a0 a1 x2 M
set_option maxHeartbeats 4000000 in
set_option maxRecDepth 100000 in
theorem sb_X8_putTerm {X : Nat × (Nat → Int32)} {al : Bool} {n : Nat} {a0 : Nat} {a1 : Nat} {x2 : Int32} {M : Mem} {v : Unit} {M1 : Mem} (h : b_X8_putTerm n a0 a1 x2 M = some (v, M1)) : AE yX8_putTerm cX8_putTerm 7 none al n X [.ref a0, .ref a1, .int x2] M none M1 := by
  refine AM.of false (by decide +kernel) (by intro h; cases h) (Nat.le_of_ble_eq_true rfl) ?_
  refine lp_snd (P := fun s r => PW_X8_putTerm X al n (fun v M2 => v = none ∧ M2 = r.2) s.1 s.2.1 s.2.2) ?_ h
  clear h
  rintro ⟨c, l, M⟩ r h
  unfold st_X8_putTerm at h
  rcases ite_p h with ⟨e, h⟩ | ⟨e, h⟩
  · replace e : c = 0 := e
    subst e
    obtain ⟨a0, tt0, e, h⟩ := vR_p id h
    replace e : l = _ := e
    subst e
    obtain ⟨a1, tt1, e, h⟩ := vR_p id h
    replace e : tt0 = _ := e
    subst e
    obtain ⟨x2, tt2, e, h⟩ := vI_p id h
    replace e : tt1 = _ := e
    subst e
    obtain ⟨e, h⟩ := vE_p id h
    replace e : tt2 = [] := e
    subst e
    exact w_X8_putTerm_0 (J := fun c l M => PW_X8_putTerm X al n (fun v M2 => v = none ∧ M2 = r.2) c l M) (R := fun v M => (v, M) = r) (fun _ _ _ h => h) (fun v M h => by cases h; exact ⟨rfl, rfl⟩) ((n_X8_putTerm_0 (lpP (fun (s : Sg) (r : Unit × Mem) => PW_X8_putTerm X al n (fun v M2 => v = none ∧ M2 = r.2) s.1 s.2.1 s.2.2) r) (fun c l M => some (.inl (c, l, M))) (fun v M => some (.inr (v, M))) none n a0 a1 x2 M).mp h)
  rcases ite_p h with ⟨e, h⟩ | ⟨e, h⟩
  · replace e : c = 8 := e
    subst e
    obtain ⟨a0, tt0, e, h⟩ := vR_p id h
    replace e : l = _ := e
    subst e
    obtain ⟨a1, tt1, e, h⟩ := vR_p id h
    replace e : tt0 = _ := e
    subst e
    obtain ⟨x2, tt2, e, h⟩ := vI_p id h
    replace e : tt1 = _ := e
    subst e
    obtain ⟨a3, tt3, e, h⟩ := vR_p id h
    replace e : tt2 = _ := e
    subst e
    obtain ⟨x4, tt4, e, h⟩ := vI_p id h
    replace e : tt3 = _ := e
    subst e
    obtain ⟨e, h⟩ := vE_p id h
    replace e : tt4 = [] := e
    subst e
    exact w_X8_putTerm_8 (J := fun c l M => PW_X8_putTerm X al n (fun v M2 => v = none ∧ M2 = r.2) c l M) (R := fun v M => (v, M) = r) (fun _ _ _ h => h) (fun v M h => by cases h; exact ⟨rfl, rfl⟩) ((n_X8_putTerm_8 (lpP (fun (s : Sg) (r : Unit × Mem) => PW_X8_putTerm X al n (fun v M2 => v = none ∧ M2 = r.2) s.1 s.2.1 s.2.2) r) (fun c l M => some (.inl (c, l, M))) (fun v M => some (.inr (v, M))) none n a0 a1 x2 a3 x4 M).mp h)
  rcases ite_p h with ⟨e, h⟩ | ⟨e, h⟩
  · replace e : c = 77 := e
    subst e
    obtain ⟨a0, tt0, e, h⟩ := vR_p id h
    replace e : l = _ := e
    subst e
    obtain ⟨a1, tt1, e, h⟩ := vR_p id h
    replace e : tt0 = _ := e
    subst e
    obtain ⟨x2, tt2, e, h⟩ := vI_p id h
    replace e : tt1 = _ := e
    subst e
    obtain ⟨a3, tt3, e, h⟩ := vR_p id h
    replace e : tt2 = _ := e
    subst e
    obtain ⟨x4, tt4, e, h⟩ := vI_p id h
    replace e : tt3 = _ := e
    subst e
    obtain ⟨x5, tt5, e, h⟩ := vI_p id h
    replace e : tt4 = _ := e
    subst e
    obtain ⟨x6, tt6, e, h⟩ := vI_p id h
    replace e : tt5 = _ := e
    subst e
    obtain ⟨e, h⟩ := vE_p id h
    replace e : tt6 = [] := e
    subst e
    exact w_X8_putTerm_77 (J := fun c l M => PW_X8_putTerm X al n (fun v M2 => v = none ∧ M2 = r.2) c l M) (R := fun v M => (v, M) = r) (fun _ _ _ h => h) (fun v M h => by cases h; exact ⟨rfl, rfl⟩) ((n_X8_putTerm_77 (lpP (fun (s : Sg) (r : Unit × Mem) => PW_X8_putTerm X al n (fun v M2 => v = none ∧ M2 = r.2) s.1 s.2.1 s.2.2) r) (fun c l M => some (.inl (c, l, M))) (fun v M => some (.inr (v, M))) none n a0 a1 x2 a3 x4 x5 x6 M).mp h)
  rcases ite_p h with ⟨e, h⟩ | ⟨e, h⟩
  · replace e : c = 101 := e
    subst e
    obtain ⟨a0, tt0, e, h⟩ := vR_p id h
    replace e : l = _ := e
    subst e
    obtain ⟨a1, tt1, e, h⟩ := vR_p id h
    replace e : tt0 = _ := e
    subst e
    obtain ⟨x2, tt2, e, h⟩ := vI_p id h
    replace e : tt1 = _ := e
    subst e
    obtain ⟨a3, tt3, e, h⟩ := vR_p id h
    replace e : tt2 = _ := e
    subst e
    obtain ⟨x4, tt4, e, h⟩ := vI_p id h
    replace e : tt3 = _ := e
    subst e
    obtain ⟨x5, tt5, e, h⟩ := vI_p id h
    replace e : tt4 = _ := e
    subst e
    obtain ⟨x6, tt6, e, h⟩ := vI_p id h
    replace e : tt5 = _ := e
    subst e
    obtain ⟨e, h⟩ := vE_p id h
    replace e : tt6 = [] := e
    subst e
    exact w_X8_putTerm_101 (J := fun c l M => PW_X8_putTerm X al n (fun v M2 => v = none ∧ M2 = r.2) c l M) (R := fun v M => (v, M) = r) (fun _ _ _ h => h) (fun v M h => by cases h; exact ⟨rfl, rfl⟩) ((n_X8_putTerm_101 (lpP (fun (s : Sg) (r : Unit × Mem) => PW_X8_putTerm X al n (fun v M2 => v = none ∧ M2 = r.2) s.1 s.2.1 s.2.2) r) (fun c l M => some (.inl (c, l, M))) (fun v M => some (.inr (v, M))) none n a0 a1 x2 a3 x4 x5 x6 M).mp h)
  rcases ite_p h with ⟨e, h⟩ | ⟨e, h⟩
  · replace e : c = 117 := e
    subst e
    obtain ⟨a0, tt0, e, h⟩ := vR_p id h
    replace e : l = _ := e
    subst e
    obtain ⟨a1, tt1, e, h⟩ := vR_p id h
    replace e : tt0 = _ := e
    subst e
    obtain ⟨x2, tt2, e, h⟩ := vI_p id h
    replace e : tt1 = _ := e
    subst e
    obtain ⟨a3, tt3, e, h⟩ := vR_p id h
    replace e : tt2 = _ := e
    subst e
    obtain ⟨x4, tt4, e, h⟩ := vI_p id h
    replace e : tt3 = _ := e
    subst e
    obtain ⟨x5, tt5, e, h⟩ := vI_p id h
    replace e : tt4 = _ := e
    subst e
    obtain ⟨x6, tt6, e, h⟩ := vI_p id h
    replace e : tt5 = _ := e
    subst e
    obtain ⟨e, h⟩ := vE_p id h
    replace e : tt6 = [] := e
    subst e
    exact w_X8_putTerm_117 (J := fun c l M => PW_X8_putTerm X al n (fun v M2 => v = none ∧ M2 = r.2) c l M) (R := fun v M => (v, M) = r) (fun _ _ _ h => h) (fun v M h => by cases h; exact ⟨rfl, rfl⟩) ((n_X8_putTerm_117 (lpP (fun (s : Sg) (r : Unit × Mem) => PW_X8_putTerm X al n (fun v M2 => v = none ∧ M2 = r.2) s.1 s.2.1 s.2.2) r) (fun c l M => some (.inl (c, l, M))) (fun v M => some (.inr (v, M))) none n a0 a1 x2 a3 x4 x5 x6 M).mp h)
  · exact h.elim

noncomputable abbrev f_X8_putTerm := b_X8_putTerm
theorem s_X8_putTerm {X : Nat × (Nat → Int32)} {al : Bool} {n : Nat} {a0 : Nat} {a1 : Nat} {x2 : Int32} {M : Mem} {v : Unit} {M1 : Mem} (h : f_X8_putTerm n a0 a1 x2 M = some (v, M1)) : AE yX8_putTerm cX8_putTerm 7 none al n X [.ref a0, .ref a1, .int x2] M none M1 := sb_X8_putTerm h
