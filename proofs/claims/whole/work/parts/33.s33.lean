/-! METHODS AS FUNCTIONS, written by wip/gen/shallow.py -/
def ix_X9_sameAs (c : Nat) : List Nat := if c = 0 then [0, 1] else if c = 15 then [0, 1, 2] else []
def PW_X9_sameAs (X : Nat × (Nat → Int32)) (al : Bool) (n : Nat) (Q : Option Value → Mem → Prop) (c : Nat) (l : List Value) (M : Mem) : Prop := AW X (RX9, cX9_sameAs, 3, (some .boolean), false, al, n) 0 0 c (List.zip (ix_X9_sameAs c) l) (l.drop (ix_X9_sameAs c).length) M Q
set_option maxHeartbeats 4000000 in
set_option maxRecDepth 100000 in
noncomputable def T_X9_sameAs_0.{u} {α : Sort u} (J : Nat → List Value → Mem → α) (R : Int32 → Mem → α) (N : α) (n : Nat) (a0 : Nat) (a1 : Nat) (M : Mem) : α := gd (fO M a0 9) N (gd (fO M a1 9) N (if (M.2.2.1 a0 2) = (M.2.2.1 a1 2) then J 15 [.ref a0, .ref a1, .int 0] M else R 0 M))
set_option maxHeartbeats 4000000 in
set_option maxRecDepth 100000 in
theorem n_X9_sameAs_0.{u, v} {α : Sort u} {β : Sort v} (h : α → β) (J : Nat → List Value → Mem → α) (R : Int32 → Mem → α) (N : α) (n : Nat) (a0 : Nat) (a1 : Nat) (M : Mem) : h (T_X9_sameAs_0 J R N n a0 a1 M) = T_X9_sameAs_0 (fun c l M => h (J c l M)) (fun v M => h (R v M)) (h N) n a0 a1 M := by
  simp only [T_X9_sameAs_0, nat_ite h, nat_gd h, nat_bnd h, nat_bnd2 h]
set_option maxHeartbeats 4000000 in
set_option maxRecDepth 100000 in
theorem w_X9_sameAs_0 {X : Nat × (Nat → Int32)} {al : Bool} {n : Nat} {Q : Option Value → Mem → Prop} {J : Nat → List Value → Mem → Prop} (hJ : ∀ c l M, J c l M → PW_X9_sameAs X al n Q c l M) {R : Int32 → Mem → Prop} (hR : ∀ v M, R v M → Q (some (.int v)) M) {a0 : Nat} {a1 : Nat} {M : Mem} (h : T_X9_sameAs_0 J R False n a0 a1 M) : AW X (RX9, cX9_sameAs, 3, (some .boolean), false, al, n) 0 0 0 [(0, .ref a0), (1, .ref a1)] [] M Q := by
  unfold T_X9_sameAs_0 at h
  refine a_aload_n dX9_sameAs_0 rfl rfl ?_
  obtain ⟨⟨ga1, gs2⟩, h⟩ := gd_t h
  refine a_get (v := .int (M.2.2.1 a0 2)) dX9_sameAs_1 fl_9_18 ga1 gs2 rfl ?_
  refine a_aload_n dX9_sameAs_4 rfl rfl ?_
  obtain ⟨⟨ga3, gs4⟩, h⟩ := gd_t h
  refine a_get (v := .int (M.2.2.1 a1 2)) dX9_sameAs_5 fl_9_18 ga3 gs4 rfl ?_
  refine a_icmp_eq 13 dX9_sameAs_8 (by decide) (fun c5 => ?_) (fun c5 => ?_)
  · replace h := ite_t c5 h
    refine a_iconst (v := 0) dX9_sameAs_13 (by decide) ?_
    refine a_istore_n dX9_sameAs_14 rfl (Nat.le_of_ble_eq_true rfl) (lv2 := [(2, .int 0), (0, .ref a0), (1, .ref a1)]) rfl ?_
    exact a_lv (lv2 := [(0, .ref a0), (1, .ref a1), (2, .int 0)]) (fa_cons rfl (fa_cons rfl (fa_cons rfl fa_nil))) (hJ _ _ _ h)
  · replace h := ite_f c5 h
    refine a_iconst (v := 0) dX9_sameAs_11 (by decide) ?_
    exact a_zret dX9_sameAs_12 rfl rfl (hR _ _ h)
set_option maxHeartbeats 4000000 in
set_option maxRecDepth 100000 in
noncomputable def T_X9_sameAs_15.{u} {α : Sort u} (J : Nat → List Value → Mem → α) (R : Int32 → Mem → α) (N : α) (n : Nat) (a0 : Nat) (a1 : Nat) (x2 : Int32) (M : Mem) : α := gd (fO M a0 9) N (if (M.2.2.1 a0 2) ≤ x2 then R 1 M else if 200 ≤ x2 then R 1 M else bnd (M.2.2.2.2 a0 0) N (fun r5 => gd (fA M r5 1 x2) N (gd (fO M a1 9) N (bnd (M.2.2.2.2 a1 0) N (fun r13 => gd (fA M r13 1 x2) N (if (M.2.2.1 r5 (x2.toNatClampNeg)) = (M.2.2.1 r13 (x2.toNatClampNeg)) then bnd (M.2.2.2.2 a0 1) N (fun r20 => gd (fA M r20 1 x2) N (bnd (M.2.2.2.2 a1 1) N (fun r26 => gd (fA M r26 1 x2) N (if (M.2.2.1 r20 (x2.toNatClampNeg)) = (M.2.2.1 r26 (x2.toNatClampNeg)) then J 15 [.ref a0, .ref a1, .int (x2 + 1)] M else R 0 M)))) else R 0 M))))))
set_option maxHeartbeats 4000000 in
set_option maxRecDepth 100000 in
theorem n_X9_sameAs_15.{u, v} {α : Sort u} {β : Sort v} (h : α → β) (J : Nat → List Value → Mem → α) (R : Int32 → Mem → α) (N : α) (n : Nat) (a0 : Nat) (a1 : Nat) (x2 : Int32) (M : Mem) : h (T_X9_sameAs_15 J R N n a0 a1 x2 M) = T_X9_sameAs_15 (fun c l M => h (J c l M)) (fun v M => h (R v M)) (h N) n a0 a1 x2 M := by
  simp only [T_X9_sameAs_15, nat_ite h, nat_gd h, nat_bnd h, nat_bnd2 h]
set_option maxHeartbeats 4000000 in
set_option maxRecDepth 100000 in
theorem w_X9_sameAs_15 {X : Nat × (Nat → Int32)} {al : Bool} {n : Nat} {Q : Option Value → Mem → Prop} {J : Nat → List Value → Mem → Prop} (hJ : ∀ c l M, J c l M → PW_X9_sameAs X al n Q c l M) {R : Int32 → Mem → Prop} (hR : ∀ v M, R v M → Q (some (.int v)) M) {a0 : Nat} {a1 : Nat} {x2 : Int32} {M : Mem} (h : T_X9_sameAs_15 J R False n a0 a1 x2 M) : AW X (RX9, cX9_sameAs, 3, (some .boolean), false, al, n) 0 0 15 [(0, .ref a0), (1, .ref a1), (2, .int x2)] [] M Q := by
  unfold T_X9_sameAs_15 at h
  refine a_iload_n dX9_sameAs_15 rfl rfl ?_
  refine a_aload_n dX9_sameAs_16 rfl rfl ?_
  obtain ⟨⟨ga1, gs2⟩, h⟩ := gd_t h
  refine a_get (v := .int (M.2.2.1 a0 2)) dX9_sameAs_17 fl_9_18 ga1 gs2 rfl ?_
  refine a_icmp_ge 68 dX9_sameAs_20 (by decide) (fun c3 => ?_) (fun c3 => ?_)
  · replace h := ite_t c3 h
    refine a_iconst (v := 1) dX9_sameAs_68 (by decide) ?_
    exact a_zret dX9_sameAs_69 rfl rfl (hR _ _ h)
  · replace h := ite_f c3 h
    refine a_iload_n dX9_sameAs_23 rfl rfl ?_
    refine a_sipush (v := 200) dX9_sameAs_24 (by decide) ?_
    refine a_icmp_ge 68 dX9_sameAs_27 (by decide) (fun c4 => ?_) (fun c4 => ?_)
    · replace h := ite_t c4 h
      refine a_iconst (v := 1) dX9_sameAs_68 (by decide) ?_
      exact a_zret dX9_sameAs_69 rfl rfl (hR _ _ h)
    · replace h := ite_f c4 h
      refine a_aload_n dX9_sameAs_30 rfl rfl ?_
      obtain ⟨r5, e6, h⟩ := bnd_t h
      refine a_get (v := .ref r5) dX9_sameAs_31 fl_9_9 ga1 gs2 (gvR e6 rfl) ?_
      refine a_iload_n dX9_sameAs_34 rfl rfl ?_
      obtain ⟨⟨ga7, gn8, gs9, gi10⟩, h⟩ := gd_t h
      refine a_iaload dX9_sameAs_35 ga7 gs9 gi10 ?_
      refine a_aload_n dX9_sameAs_36 rfl rfl ?_
      obtain ⟨⟨ga11, gs12⟩, h⟩ := gd_t h
      obtain ⟨r13, e14, h⟩ := bnd_t h
      refine a_get (v := .ref r13) dX9_sameAs_37 fl_9_9 ga11 gs12 (gvR e14 rfl) ?_
      refine a_iload_n dX9_sameAs_40 rfl rfl ?_
      obtain ⟨⟨ga15, gn16, gs17, gi18⟩, h⟩ := gd_t h
      refine a_iaload dX9_sameAs_41 ga15 gs17 gi18 ?_
      refine a_icmp_ne 60 dX9_sameAs_42 (by decide) (fun c19 => ?_) (fun c19 => ?_)
      · replace h := ite_f c19 h
        refine a_iconst (v := 0) dX9_sameAs_60 (by decide) ?_
        exact a_zret dX9_sameAs_61 rfl rfl (hR _ _ h)
      · replace h := ite_t c19 h
        refine a_aload_n dX9_sameAs_45 rfl rfl ?_
        obtain ⟨r20, e21, h⟩ := bnd_t h
        refine a_get (v := .ref r20) dX9_sameAs_46 fl_9_15 ga1 gs2 (gvR e21 rfl) ?_
        refine a_iload_n dX9_sameAs_49 rfl rfl ?_
        obtain ⟨⟨ga22, gn23, gs24, gi25⟩, h⟩ := gd_t h
        refine a_iaload dX9_sameAs_50 ga22 gs24 gi25 ?_
        refine a_aload_n dX9_sameAs_51 rfl rfl ?_
        obtain ⟨r26, e27, h⟩ := bnd_t h
        refine a_get (v := .ref r26) dX9_sameAs_52 fl_9_15 ga11 gs12 (gvR e27 rfl) ?_
        refine a_iload_n dX9_sameAs_55 rfl rfl ?_
        obtain ⟨⟨ga28, gn29, gs30, gi31⟩, h⟩ := gd_t h
        refine a_iaload dX9_sameAs_56 ga28 gs30 gi31 ?_
        refine a_icmp_eq 62 dX9_sameAs_57 (by decide) (fun c32 => ?_) (fun c32 => ?_)
        · replace h := ite_t c32 h
          refine a_iinc (v := (x2 + 1)) dX9_sameAs_62 rfl (by first | rfl | decide) (Nat.le_of_ble_eq_true rfl) (lv2 := [(2, .int (x2 + 1)), (0, .ref a0), (1, .ref a1)]) rfl ?_
          refine a_goto 15 dX9_sameAs_65 (by decide) ?_
          exact a_lv (lv2 := [(0, .ref a0), (1, .ref a1), (2, .int (x2 + 1))]) (fa_cons rfl (fa_cons rfl (fa_cons rfl fa_nil))) (hJ _ _ _ h)
        · replace h := ite_f c32 h
          refine a_iconst (v := 0) dX9_sameAs_60 (by decide) ?_
          exact a_zret dX9_sameAs_61 rfl rfl (hR _ _ h)
set_option maxHeartbeats 4000000 in
set_option maxRecDepth 100000 in
noncomputable def st_X9_sameAs (n : Nat) (s : Sg) : Option (Sg ⊕ (Int32 × Mem)) := if s.1 = 0 then vR s.2.1 none (fun a0 t => vR t none (fun a1 t => vE t none (T_X9_sameAs_0 (fun c l M => some (.inl (c, l, M))) (fun v M => some (.inr (v, M))) none n a0 a1 s.2.2))) else if s.1 = 15 then vR s.2.1 none (fun a0 t => vR t none (fun a1 t => vI t none (fun x2 t => vE t none (T_X9_sameAs_15 (fun c l M => some (.inl (c, l, M))) (fun v M => some (.inr (v, M))) none n a0 a1 x2 s.2.2)))) else none
noncomputable abbrev g_X9_sameAs_0 (n : Nat) (a0 : Nat) (a1 : Nat) (M : Mem) : Option (Int32 × Mem) := lp (st_X9_sameAs n) (0, [.ref a0, .ref a1], M)
set_option maxHeartbeats 4000000 in
set_option maxRecDepth 100000 in
theorem ge_X9_sameAs_0 (n : Nat) (a0 : Nat) (a1 : Nat) (M : Mem) : g_X9_sameAs_0 n a0 a1 M = T_X9_sameAs_0 (fun c l M => lp (st_X9_sameAs n) (c, l, M)) (fun v M => some (v, M)) none n a0 a1 M := (lp_eq _ _).trans (n_X9_sameAs_0 (lpK (st_X9_sameAs n)) (fun c l M => some (.inl (c, l, M))) (fun v M => some (.inr (v, M))) none n a0 a1 M)
noncomputable abbrev g_X9_sameAs_15 (n : Nat) (a0 : Nat) (a1 : Nat) (x2 : Int32) (M : Mem) : Option (Int32 × Mem) := lp (st_X9_sameAs n) (15, [.ref a0, .ref a1, .int x2], M)
set_option maxHeartbeats 4000000 in
set_option maxRecDepth 100000 in
theorem ge_X9_sameAs_15 (n : Nat) (a0 : Nat) (a1 : Nat) (x2 : Int32) (M : Mem) : g_X9_sameAs_15 n a0 a1 x2 M = T_X9_sameAs_15 (fun c l M => lp (st_X9_sameAs n) (c, l, M)) (fun v M => some (v, M)) none n a0 a1 x2 M := (lp_eq _ _).trans (n_X9_sameAs_15 (lpK (st_X9_sameAs n)) (fun c l M => some (.inl (c, l, M))) (fun v M => some (.inr (v, M))) none n a0 a1 x2 M)
noncomputable def b_X9_sameAs (n : Nat) (a0 : Nat) (a1 : Nat) (M : Mem) : Option (Int32 × Mem) := g_X9_sameAs_0 n a0 a1 M
set_option maxHeartbeats 4000000 in
set_option maxRecDepth 100000 in
theorem sb_X9_sameAs {X : Nat × (Nat → Int32)} {al : Bool} {n : Nat} {a0 : Nat} {a1 : Nat} {M : Mem} {v : Int32} {M1 : Mem} (h : b_X9_sameAs n a0 a1 M = some (v, M1)) : AE yX9_sameAs cX9_sameAs 3 (some .boolean) al n X [.ref a0, .ref a1] M (some (.int v)) M1 := by
  refine AM.of false (by decide +kernel) (by intro h; cases h) (Nat.le_of_ble_eq_true rfl) ?_
  refine lp_snd (P := fun s r => PW_X9_sameAs X al n (fun v M2 => v = (some (.int r.1)) ∧ M2 = r.2) s.1 s.2.1 s.2.2) ?_ h
  clear h
  rintro ⟨c, l, M⟩ r h
  unfold st_X9_sameAs at h
  rcases ite_p h with ⟨e, h⟩ | ⟨e, h⟩
  · replace e : c = 0 := e
    subst e
    obtain ⟨a0, tt0, e, h⟩ := vR_p id h
    replace e : l = _ := e
    subst e
    obtain ⟨a1, tt1, e, h⟩ := vR_p id h
    replace e : tt0 = _ := e
    subst e
    obtain ⟨e, h⟩ := vE_p id h
    replace e : tt1 = [] := e
    subst e
    exact w_X9_sameAs_0 (J := fun c l M => PW_X9_sameAs X al n (fun v M2 => v = (some (.int r.1)) ∧ M2 = r.2) c l M) (R := fun v M => (v, M) = r) (fun _ _ _ h => h) (fun v M h => by cases h; exact ⟨rfl, rfl⟩) ((n_X9_sameAs_0 (lpP (fun (s : Sg) (r : Int32 × Mem) => PW_X9_sameAs X al n (fun v M2 => v = (some (.int r.1)) ∧ M2 = r.2) s.1 s.2.1 s.2.2) r) (fun c l M => some (.inl (c, l, M))) (fun v M => some (.inr (v, M))) none n a0 a1 M).mp h)
  rcases ite_p h with ⟨e, h⟩ | ⟨e, h⟩
  · replace e : c = 15 := e
    subst e
    obtain ⟨a0, tt0, e, h⟩ := vR_p id h
    replace e : l = _ := e
    subst e
    obtain ⟨a1, tt1, e, h⟩ := vR_p id h
    replace e : tt0 = _ := e
    subst e
    obtain ⟨x2, tt2, e, h⟩ := vI_p id h
    replace e : tt1 = _ := e
    subst e
    obtain ⟨e, h⟩ := vE_p id h
    replace e : tt2 = [] := e
    subst e
    exact w_X9_sameAs_15 (J := fun c l M => PW_X9_sameAs X al n (fun v M2 => v = (some (.int r.1)) ∧ M2 = r.2) c l M) (R := fun v M => (v, M) = r) (fun _ _ _ h => h) (fun v M h => by cases h; exact ⟨rfl, rfl⟩) ((n_X9_sameAs_15 (lpP (fun (s : Sg) (r : Int32 × Mem) => PW_X9_sameAs X al n (fun v M2 => v = (some (.int r.1)) ∧ M2 = r.2) s.1 s.2.1 s.2.2) r) (fun c l M => some (.inl (c, l, M))) (fun v M => some (.inr (v, M))) none n a0 a1 x2 M).mp h)
  · exact h.elim

noncomputable abbrev f_X9_sameAs := b_X9_sameAs
theorem s_X9_sameAs {X : Nat × (Nat → Int32)} {al : Bool} {n : Nat} {a0 : Nat} {a1 : Nat} {M : Mem} {v : Int32} {M1 : Mem} (h : f_X9_sameAs n a0 a1 M = some (v, M1)) : AE yX9_sameAs cX9_sameAs 3 (some .boolean) al n X [.ref a0, .ref a1] M (some (.int v)) M1 := sb_X9_sameAs h
set_option maxHeartbeats 4000000 in
set_option maxRecDepth 100000 in
noncomputable def T_X10_equal_0.{u} {α : Sort u} (R : Int32 → Mem → α) (N : α) (n : Nat) (a0 : Nat) (x1 : Int32) (x2 : Int32) (M : Mem) : α := bnd2 (cal n (fun n => f_X10_noSlot n x1 M)) N (fun v1 M2 => if v1 = 0 then bnd2 (cal n (fun n => f_X10_noSlot n x2 M2)) N (fun v7 M8 => if v7 = 0 then gd (fO M8 a0 10) N (bnd (M8.2.2.2.2 a0 5) N (fun r15 => gd (fA M8 r15 4 x1) N (bnd (M8.2.2.2.2 r15 (x1.toNatClampNeg)) N (fun r21 => gd (fO M8 r21 9) N (if (M8.2.2.1 r21 2) = 0 then R (-5) M8 else gd (fA M8 r15 4 x2) N (bnd (M8.2.2.2.2 r15 (x2.toNatClampNeg)) N (fun r30 => gd (fO M8 r30 9) N (if (M8.2.2.1 r30 2) = 0 then R (-5) M8 else bnd (M8.2.2.2.2 r15 (x1.toNatClampNeg)) N (fun r35 => bnd (M8.2.2.2.2 r15 (x2.toNatClampNeg)) N (fun r37 => gd (fO M8 r35 9) N (bnd2 (cal n (fun n => f_X9_sameAs n r35 r37 M8)) N (fun v41 M42 => if v41 = 0 then R 0 M42 else R 1 M42)))))))))))) else R (-2) M8) else R (-2) M2)
set_option maxHeartbeats 4000000 in
set_option maxRecDepth 100000 in
theorem n_X10_equal_0.{u, v} {α : Sort u} {β : Sort v} (h : α → β) (R : Int32 → Mem → α) (N : α) (n : Nat) (a0 : Nat) (x1 : Int32) (x2 : Int32) (M : Mem) : h (T_X10_equal_0 R N n a0 x1 x2 M) = T_X10_equal_0 (fun v M => h (R v M)) (h N) n a0 x1 x2 M := by
  simp only [T_X10_equal_0, nat_ite h, nat_gd h, nat_bnd h, nat_bnd2 h]
set_option maxHeartbeats 4000000 in
set_option maxRecDepth 100000 in
theorem w_X10_equal_0 {X : Nat × (Nat → Int32)} {al : Bool} {n : Nat} {Q : Option Value → Mem → Prop} {R : Int32 → Mem → Prop} (hR : ∀ v M, R v M → Q (some (.int v)) M) {a0 : Nat} {x1 : Int32} {x2 : Int32} {M : Mem} (h : T_X10_equal_0 R False n a0 x1 x2 M) : AW X (RX10, cX10_equal, 3, (some .int), false, al, n) 0 0 0 [(0, .ref a0), (1, .int x1), (2, .int x2)] [] M Q := by
  unfold T_X10_equal_0 at h
  refine a_iload_n dX10_equal_0 rfl rfl ?_
  obtain ⟨v1, M2, e3, h⟩ := bnd2_t h
  obtain ⟨n4, en5, e3⟩ := cal_t e3
  refine e_callS (As := [.int x1]) (st := []) false dX10_equal_1 mw_X10_noSlot (Or.inl ⟨rfl, ml_X10_151⟩) sm_X10_noSlot rfl (Nat.le_of_ble_eq_true rfl) en5 (s_X10_noSlot e3) ?_
  refine a_if_ne 14 dX10_equal_4 (by decide) (fun c6 => ?_) (fun c6 => ?_)
  · replace h := ite_f c6 h
    refine a_bipush (v := -2) dX10_equal_14 (by decide) ?_
    exact a_iret dX10_equal_16 rfl (hR _ _ h)
  · replace h := ite_t c6 h
    refine a_iload_n dX10_equal_7 rfl rfl ?_
    obtain ⟨v7, M8, e9, h⟩ := bnd2_t h
    obtain ⟨n10, en11, e9⟩ := cal_t e9
    refine e_callS (As := [.int x2]) (st := []) false dX10_equal_8 mw_X10_noSlot (Or.inl ⟨rfl, ml_X10_151⟩) sm_X10_noSlot rfl (Nat.le_of_ble_eq_true rfl) en11 (s_X10_noSlot e9) ?_
    refine a_if_eq 17 dX10_equal_11 (by decide) (fun c12 => ?_) (fun c12 => ?_)
    · replace h := ite_t c12 h
      refine a_aload_n dX10_equal_17 rfl rfl ?_
      obtain ⟨⟨ga13, gs14⟩, h⟩ := gd_t h
      obtain ⟨r15, e16, h⟩ := bnd_t h
      refine a_get (v := .ref r15) dX10_equal_18 fl_10_38 ga13 gs14 (gvR e16 rfl) ?_
      refine a_iload_n dX10_equal_21 rfl rfl ?_
      obtain ⟨⟨ga17, gn18, gs19, gi20⟩, h⟩ := gd_t h
      obtain ⟨r21, e22, h⟩ := bnd_t h
      refine a_aaload dX10_equal_22 ga17 gs19 gi20 e22 ?_
      obtain ⟨⟨ga23, gs24⟩, h⟩ := gd_t h
      refine a_getN (v := .int (M8.2.2.1 r21 2)) dX10_equal_23 fn_10_171 ga23 gs24 rfl ?_
      refine a_if_eq 41 dX10_equal_26 (by decide) (fun c25 => ?_) (fun c25 => ?_)
      · replace h := ite_t c25 h
        refine a_bipush (v := -5) dX10_equal_41 (by decide) ?_
        exact a_iret dX10_equal_43 rfl (hR _ _ h)
      · replace h := ite_f c25 h
        refine a_aload_n dX10_equal_29 rfl rfl ?_
        refine a_get (v := .ref r15) dX10_equal_30 fl_10_38 ga13 gs14 (gvR e16 rfl) ?_
        refine a_iload_n dX10_equal_33 rfl rfl ?_
        obtain ⟨⟨ga26, gn27, gs28, gi29⟩, h⟩ := gd_t h
        obtain ⟨r30, e31, h⟩ := bnd_t h
        refine a_aaload dX10_equal_34 ga26 gs28 gi29 e31 ?_
        obtain ⟨⟨ga32, gs33⟩, h⟩ := gd_t h
        refine a_getN (v := .int (M8.2.2.1 r30 2)) dX10_equal_35 fn_10_171 ga32 gs33 rfl ?_
        refine a_if_ne 44 dX10_equal_38 (by decide) (fun c34 => ?_) (fun c34 => ?_)
        · replace h := ite_f c34 h
          refine a_aload_n dX10_equal_44 rfl rfl ?_
          refine a_get (v := .ref r15) dX10_equal_45 fl_10_38 ga13 gs14 (gvR e16 rfl) ?_
          refine a_iload_n dX10_equal_48 rfl rfl ?_
          obtain ⟨r35, e36, h⟩ := bnd_t h
          refine a_aaload dX10_equal_49 ga17 gs19 gi20 e36 ?_
          refine a_aload_n dX10_equal_50 rfl rfl ?_
          refine a_get (v := .ref r15) dX10_equal_51 fl_10_38 ga13 gs14 (gvR e16 rfl) ?_
          refine a_iload_n dX10_equal_54 rfl rfl ?_
          obtain ⟨r37, e38, h⟩ := bnd_t h
          refine a_aaload dX10_equal_55 ga26 gs28 gi29 e38 ?_
          obtain ⟨⟨ga39, gs40⟩, h⟩ := gd_t h
          obtain ⟨v41, M42, e43, h⟩ := bnd2_t h
          obtain ⟨n44, en45, e43⟩ := cal_t e43
          refine e_callV (As := [.ref r37]) (st := []) (a := r35) (ci := 9) false dX10_equal_56 mw_X9_sameAs (Or.inl ⟨rfl, ml_X10_299⟩) im_X9_sameAs se_X9_sameAs (by decide) ga39 gs40 rfl (Nat.le_of_ble_eq_true rfl) en45 (s_X9_sameAs e43) ?_
          refine a_if_eq 66 dX10_equal_59 (by decide) (fun c46 => ?_) (fun c46 => ?_)
          · replace h := ite_t c46 h
            refine a_iconst (v := 0) dX10_equal_66 (by decide) ?_
            exact a_iret dX10_equal_67 rfl (hR _ _ h)
          · replace h := ite_f c46 h
            refine a_iconst (v := 1) dX10_equal_62 (by decide) ?_
            refine a_goto 67 dX10_equal_63 (by decide) ?_
            exact a_iret dX10_equal_67 rfl (hR _ _ h)
        · replace h := ite_t c34 h
          refine a_bipush (v := -5) dX10_equal_41 (by decide) ?_
          exact a_iret dX10_equal_43 rfl (hR _ _ h)
    · replace h := ite_f c12 h
      refine a_bipush (v := -2) dX10_equal_14 (by decide) ?_
      exact a_iret dX10_equal_16 rfl (hR _ _ h)
noncomputable def b_X10_equal (n : Nat) (a0 : Nat) (x1 : Int32) (x2 : Int32) (M : Mem) : Option (Int32 × Mem) := T_X10_equal_0 (fun v M => some (v, M)) none n a0 x1 x2 M
set_option maxHeartbeats 4000000 in
set_option maxRecDepth 100000 in
theorem sb_X10_equal {X : Nat × (Nat → Int32)} {al : Bool} {n : Nat} {a0 : Nat} {x1 : Int32} {x2 : Int32} {M : Mem} {v : Int32} {M1 : Mem} (h : b_X10_equal n a0 x1 x2 M = some (v, M1)) : AE yX10_equal cX10_equal 3 (some .int) al n X [.ref a0, .int x1, .int x2] M (some (.int v)) M1 := by
  refine AM.of false (by decide +kernel) (by intro h; cases h) (Nat.le_of_ble_eq_true rfl) ?_
  have h2 : T_X10_equal_0 (fun v2 M2 => some (v2, M2) = some (v, M1)) (none = some (v, M1)) n a0 x1 x2 M := (n_X10_equal_0 (fun o => o = some (v, M1)) (fun v M => some (v, M)) none n a0 x1 x2 M).mp h
  have h3 : ((none : Option (Int32 × Mem)) = some (v, M1)) = False := eq_false (by intro q; cases q)
  rw [h3] at h2
  exact w_X10_equal_0 (fun v2 M2 h => by cases h; exact ⟨rfl, rfl⟩) h2

noncomputable abbrev f_X10_equal := b_X10_equal
theorem s_X10_equal {X : Nat × (Nat → Int32)} {al : Bool} {n : Nat} {a0 : Nat} {x1 : Int32} {x2 : Int32} {M : Mem} {v : Int32} {M1 : Mem} (h : f_X10_equal n a0 x1 x2 M = some (v, M1)) : AE yX10_equal cX10_equal 3 (some .int) al n X [.ref a0, .int x1, .int x2] M (some (.int v)) M1 := sb_X10_equal h
def ix_X11_keepsBeside (c : Nat) : List Nat := if c = 0 then [0] else if c = 10 then [0, 1] else []
def PW_X11_keepsBeside (X : Nat × (Nat → Int32)) (al : Bool) (n : Nat) (Q : Option Value → Mem → Prop) (c : Nat) (l : List Value) (M : Mem) : Prop := AW X (RX11, cX11_keepsBeside, 2, none, false, al, n) 0 0 c (List.zip (ix_X11_keepsBeside c) l) (l.drop (ix_X11_keepsBeside c).length) M Q
set_option maxHeartbeats 4000000 in
set_option maxRecDepth 100000 in
noncomputable def T_X11_keepsBeside_0.{u} {α : Sort u} (J : Nat → List Value → Mem → α) (R : Unit → Mem → α) (N : α) (n : Nat) (a0 : Nat) (M : Mem) : α := gd (fO M a0 11) N (J 10 [.ref a0, .int 0] (wI M a0 59 (M.2.2.1 a0 24)))
set_option maxHeartbeats 4000000 in
set_option maxRecDepth 100000 in
theorem n_X11_keepsBeside_0.{u, v} {α : Sort u} {β : Sort v} (h : α → β) (J : Nat → List Value → Mem → α) (R : Unit → Mem → α) (N : α) (n : Nat) (a0 : Nat) (M : Mem) : h (T_X11_keepsBeside_0 J R N n a0 M) = T_X11_keepsBeside_0 (fun c l M => h (J c l M)) (fun v M => h (R v M)) (h N) n a0 M := by
  simp only [T_X11_keepsBeside_0, nat_ite h, nat_gd h, nat_bnd h, nat_bnd2 h]
set_option maxHeartbeats 4000000 in
set_option maxRecDepth 100000 in
theorem w_X11_keepsBeside_0 {X : Nat × (Nat → Int32)} {al : Bool} {n : Nat} {Q : Option Value → Mem → Prop} {J : Nat → List Value → Mem → Prop} (hJ : ∀ c l M, J c l M → PW_X11_keepsBeside X al n Q c l M) {R : Unit → Mem → Prop} (hR : ∀ v M, R v M → Q none M) {a0 : Nat} {M : Mem} (h : T_X11_keepsBeside_0 J R False n a0 M) : AW X (RX11, cX11_keepsBeside, 2, none, false, al, n) 0 0 0 [(0, .ref a0)] [] M Q := by
  unfold T_X11_keepsBeside_0 at h
  refine a_aload_n dX11_keepsBeside_0 rfl rfl ?_
  refine a_aload_n dX11_keepsBeside_1 rfl rfl ?_
  obtain ⟨⟨ga1, gs2⟩, h⟩ := gd_t h
  refine a_get (v := .int (M.2.2.1 a0 24)) dX11_keepsBeside_2 fl_11_151 ga1 gs2 rfl ?_
  refine a_putI dX11_keepsBeside_5 (Or.inl ⟨fl_11_426, Or.inl rfl⟩) rfl ga1 gs2 rfl rfl ?_
  refine a_iconst (v := 0) dX11_keepsBeside_8 (by decide) ?_
  refine a_istore_n dX11_keepsBeside_9 rfl (Nat.le_of_ble_eq_true rfl) (lv2 := [(1, .int 0), (0, .ref a0)]) rfl ?_
  exact a_lv (lv2 := [(0, .ref a0), (1, .int 0)]) (fa_cons rfl (fa_cons rfl fa_nil)) (hJ _ _ _ h)
set_option maxHeartbeats 4000000 in
set_option maxRecDepth 100000 in
noncomputable def T_X11_keepsBeside_10.{u} {α : Sort u} (J : Nat → List Value → Mem → α) (R : Unit → Mem → α) (N : α) (n : Nat) (a0 : Nat) (x1 : Int32) (M : Mem) : α := gd (fO M a0 11) N (if (M.2.2.1 a0 24) ≤ x1 then R () M else bnd (M.2.2.2.2 a0 57) N (fun r4 => bnd (M.2.2.2.2 a0 20) N (fun r6 => gd (fA M r6 1 x1) N (gd (fA M r4 1 x1) N (bnd (M.2.2.2.2 a0 58) N (fun r16 => bnd (M.2.2.2.2 a0 21) N (fun r18 => gd (fA M r18 1 x1) N (gd (fA M r16 1 x1) N (J 10 [.ref a0, .int (x1 + 1)] (wI (wI M r4 (x1.toNatClampNeg) (M.2.2.1 r6 (x1.toNatClampNeg))) r16 (x1.toNatClampNeg) ((wI M r4 (x1.toNatClampNeg) (M.2.2.1 r6 (x1.toNatClampNeg))).2.2.1 r18 (x1.toNatClampNeg))))))))))))
set_option maxHeartbeats 4000000 in
set_option maxRecDepth 100000 in
theorem n_X11_keepsBeside_10.{u, v} {α : Sort u} {β : Sort v} (h : α → β) (J : Nat → List Value → Mem → α) (R : Unit → Mem → α) (N : α) (n : Nat) (a0 : Nat) (x1 : Int32) (M : Mem) : h (T_X11_keepsBeside_10 J R N n a0 x1 M) = T_X11_keepsBeside_10 (fun c l M => h (J c l M)) (fun v M => h (R v M)) (h N) n a0 x1 M := by
  simp only [T_X11_keepsBeside_10, nat_ite h, nat_gd h, nat_bnd h, nat_bnd2 h]
set_option maxHeartbeats 4000000 in
set_option maxRecDepth 100000 in
theorem w_X11_keepsBeside_10 {X : Nat × (Nat → Int32)} {al : Bool} {n : Nat} {Q : Option Value → Mem → Prop} {J : Nat → List Value → Mem → Prop} (hJ : ∀ c l M, J c l M → PW_X11_keepsBeside X al n Q c l M) {R : Unit → Mem → Prop} (hR : ∀ v M, R v M → Q none M) {a0 : Nat} {x1 : Int32} {M : Mem} (h : T_X11_keepsBeside_10 J R False n a0 x1 M) : AW X (RX11, cX11_keepsBeside, 2, none, false, al, n) 0 0 10 [(0, .ref a0), (1, .int x1)] [] M Q := by
  unfold T_X11_keepsBeside_10 at h
  refine a_iload_n dX11_keepsBeside_10 rfl rfl ?_
  refine a_aload_n dX11_keepsBeside_11 rfl rfl ?_
  obtain ⟨⟨ga1, gs2⟩, h⟩ := gd_t h
  refine a_get (v := .int (M.2.2.1 a0 24)) dX11_keepsBeside_12 fl_11_151 ga1 gs2 rfl ?_
  refine a_icmp_ge 48 dX11_keepsBeside_15 (by decide) (fun c3 => ?_) (fun c3 => ?_)
  · replace h := ite_t c3 h
    exact a_vret dX11_keepsBeside_48 rfl (hR _ _ h)
  · replace h := ite_f c3 h
    refine a_aload_n dX11_keepsBeside_18 rfl rfl ?_
    obtain ⟨r4, e5, h⟩ := bnd_t h
    refine a_get (v := .ref r4) dX11_keepsBeside_19 fl_11_117 ga1 gs2 (gvR e5 rfl) ?_
    refine a_iload_n dX11_keepsBeside_22 rfl rfl ?_
    refine a_aload_n dX11_keepsBeside_23 rfl rfl ?_
    obtain ⟨r6, e7, h⟩ := bnd_t h
    refine a_get (v := .ref r6) dX11_keepsBeside_24 fl_11_59 ga1 gs2 (gvR e7 rfl) ?_
    refine a_iload_n dX11_keepsBeside_27 rfl rfl ?_
    obtain ⟨⟨ga8, gn9, gs10, gi11⟩, h⟩ := gd_t h
    refine a_iaload dX11_keepsBeside_28 ga8 gs10 gi11 ?_
    obtain ⟨⟨ga12, gn13, gs14, gi15⟩, h⟩ := gd_t h
    refine a_iastore dX11_keepsBeside_29 ga12 gs14 gi15 ?_
    refine a_aload_n dX11_keepsBeside_30 rfl rfl ?_
    obtain ⟨r16, e17, h⟩ := bnd_t h
    refine a_get (v := .ref r16) dX11_keepsBeside_31 fl_11_120 ga1 gs2 (gvR e17 rfl) ?_
    refine a_iload_n dX11_keepsBeside_34 rfl rfl ?_
    refine a_aload_n dX11_keepsBeside_35 rfl rfl ?_
    obtain ⟨r18, e19, h⟩ := bnd_t h
    refine a_get (v := .ref r18) dX11_keepsBeside_36 fl_11_62 ga1 gs2 (gvR e19 rfl) ?_
    refine a_iload_n dX11_keepsBeside_39 rfl rfl ?_
    obtain ⟨⟨ga20, gn21, gs22, gi23⟩, h⟩ := gd_t h
    refine a_iaload dX11_keepsBeside_40 ga20 gs22 gi23 ?_
    obtain ⟨⟨ga24, gn25, gs26, gi27⟩, h⟩ := gd_t h
    refine a_iastore dX11_keepsBeside_41 ga24 gs26 gi27 ?_
    refine a_iinc (v := (x1 + 1)) dX11_keepsBeside_42 rfl (by first | rfl | decide) (Nat.le_of_ble_eq_true rfl) (lv2 := [(1, .int (x1 + 1)), (0, .ref a0)]) rfl ?_
    refine a_goto 10 dX11_keepsBeside_45 (by decide) ?_
    exact a_lv (lv2 := [(0, .ref a0), (1, .int (x1 + 1))]) (fa_cons rfl (fa_cons rfl fa_nil)) (hJ _ _ _ h)
set_option maxHeartbeats 4000000 in
set_option maxRecDepth 100000 in
noncomputable def st_X11_keepsBeside (n : Nat) (s : Sg) : Option (Sg ⊕ (Unit × Mem)) := if s.1 = 0 then vR s.2.1 none (fun a0 t => vE t none (T_X11_keepsBeside_0 (fun c l M => some (.inl (c, l, M))) (fun v M => some (.inr (v, M))) none n a0 s.2.2)) else if s.1 = 10 then vR s.2.1 none (fun a0 t => vI t none (fun x1 t => vE t none (T_X11_keepsBeside_10 (fun c l M => some (.inl (c, l, M))) (fun v M => some (.inr (v, M))) none n a0 x1 s.2.2))) else none
noncomputable abbrev g_X11_keepsBeside_0 (n : Nat) (a0 : Nat) (M : Mem) : Option (Unit × Mem) := lp (st_X11_keepsBeside n) (0, [.ref a0], M)
set_option maxHeartbeats 4000000 in
set_option maxRecDepth 100000 in
theorem ge_X11_keepsBeside_0 (n : Nat) (a0 : Nat) (M : Mem) : g_X11_keepsBeside_0 n a0 M = T_X11_keepsBeside_0 (fun c l M => lp (st_X11_keepsBeside n) (c, l, M)) (fun v M => some (v, M)) none n a0 M := (lp_eq _ _).trans (n_X11_keepsBeside_0 (lpK (st_X11_keepsBeside n)) (fun c l M => some (.inl (c, l, M))) (fun v M => some (.inr (v, M))) none n a0 M)
noncomputable abbrev g_X11_keepsBeside_10 (n : Nat) (a0 : Nat) (x1 : Int32) (M : Mem) : Option (Unit × Mem) := lp (st_X11_keepsBeside n) (10, [.ref a0, .int x1], M)
set_option maxHeartbeats 4000000 in
set_option maxRecDepth 100000 in
theorem ge_X11_keepsBeside_10 (n : Nat) (a0 : Nat) (x1 : Int32) (M : Mem) : g_X11_keepsBeside_10 n a0 x1 M = T_X11_keepsBeside_10 (fun c l M => lp (st_X11_keepsBeside n) (c, l, M)) (fun v M => some (v, M)) none n a0 x1 M := (lp_eq _ _).trans (n_X11_keepsBeside_10 (lpK (st_X11_keepsBeside n)) (fun c l M => some (.inl (c, l, M))) (fun v M => some (.inr (v, M))) none n a0 x1 M)
noncomputable def b_X11_keepsBeside (n : Nat) (a0 : Nat) (M : Mem) : Option (Unit × Mem) := g_X11_keepsBeside_0 n a0 M
set_option maxHeartbeats 4000000 in
set_option maxRecDepth 100000 in
theorem sb_X11_keepsBeside {X : Nat × (Nat → Int32)} {al : Bool} {n : Nat} {a0 : Nat} {M : Mem} {v : Unit} {M1 : Mem} (h : b_X11_keepsBeside n a0 M = some (v, M1)) : AE yX11_keepsBeside cX11_keepsBeside 2 none al n X [.ref a0] M none M1 := by
  refine AM.of false (by decide +kernel) (by intro h; cases h) (Nat.le_of_ble_eq_true rfl) ?_
  refine lp_snd (P := fun s r => PW_X11_keepsBeside X al n (fun v M2 => v = none ∧ M2 = r.2) s.1 s.2.1 s.2.2) ?_ h
  clear h
  rintro ⟨c, l, M⟩ r h
  unfold st_X11_keepsBeside at h
  rcases ite_p h with ⟨e, h⟩ | ⟨e, h⟩
  · replace e : c = 0 := e
    subst e
    obtain ⟨a0, tt0, e, h⟩ := vR_p id h
    replace e : l = _ := e
    subst e
    obtain ⟨e, h⟩ := vE_p id h
    replace e : tt0 = [] := e
    subst e
    exact w_X11_keepsBeside_0 (J := fun c l M => PW_X11_keepsBeside X al n (fun v M2 => v = none ∧ M2 = r.2) c l M) (R := fun v M => (v, M) = r) (fun _ _ _ h => h) (fun v M h => by cases h; exact ⟨rfl, rfl⟩) ((n_X11_keepsBeside_0 (lpP (fun (s : Sg) (r : Unit × Mem) => PW_X11_keepsBeside X al n (fun v M2 => v = none ∧ M2 = r.2) s.1 s.2.1 s.2.2) r) (fun c l M => some (.inl (c, l, M))) (fun v M => some (.inr (v, M))) none n a0 M).mp h)
  rcases ite_p h with ⟨e, h⟩ | ⟨e, h⟩
  · replace e : c = 10 := e
    subst e
    obtain ⟨a0, tt0, e, h⟩ := vR_p id h
    replace e : l = _ := e
    subst e
    obtain ⟨x1, tt1, e, h⟩ := vI_p id h
    replace e : tt0 = _ := e
    subst e
    obtain ⟨e, h⟩ := vE_p id h
    replace e : tt1 = [] := e
    subst e
    exact w_X11_keepsBeside_10 (J := fun c l M => PW_X11_keepsBeside X al n (fun v M2 => v = none ∧ M2 = r.2) c l M) (R := fun v M => (v, M) = r) (fun _ _ _ h => h) (fun v M h => by cases h; exact ⟨rfl, rfl⟩) ((n_X11_keepsBeside_10 (lpP (fun (s : Sg) (r : Unit × Mem) => PW_X11_keepsBeside X al n (fun v M2 => v = none ∧ M2 = r.2) s.1 s.2.1 s.2.2) r) (fun c l M => some (.inl (c, l, M))) (fun v M => some (.inr (v, M))) none n a0 x1 M).mp h)
  · exact h.elim

noncomputable abbrev f_X11_keepsBeside := b_X11_keepsBeside
theorem s_X11_keepsBeside {X : Nat × (Nat → Int32)} {al : Bool} {n : Nat} {a0 : Nat} {M : Mem} {v : Unit} {M1 : Mem} (h : f_X11_keepsBeside n a0 M = some (v, M1)) : AE yX11_keepsBeside cX11_keepsBeside 2 none al n X [.ref a0] M none M1 := sb_X11_keepsBeside h
def ix_X11_isThen (c : Nat) : List Nat := if c = 0 then [0] else if c = 19 then [0, 1, 2] else []
def PW_X11_isThen (X : Nat × (Nat → Int32)) (al : Bool) (n : Nat) (Q : Option Value → Mem → Prop) (c : Nat) (l : List Value) (M : Mem) : Prop := AW X (RX11, cX11_isThen, 3, (some .boolean), false, al, n) 0 0 c (List.zip (ix_X11_isThen c) l) (l.drop (ix_X11_isThen c).length) M Q
set_option maxHeartbeats 4000000 in
set_option maxRecDepth 100000 in
noncomputable def T_X11_isThen_0.{u} {α : Sort u} (J : Nat → List Value → Mem → α) (R : Int32 → Mem → α) (N : α) (n : Nat) (a0 : Nat) (M : Mem) : α := gd (fO M a0 11) N (if (M.2.2.1 a0 24) = (M.2.2.1 a0 59) then J 19 [.ref a0, .int 1, .int 0] M else J 19 [.ref a0, .int 0, .int 0] M)
set_option maxHeartbeats 4000000 in
set_option maxRecDepth 100000 in
theorem n_X11_isThen_0.{u, v} {α : Sort u} {β : Sort v} (h : α → β) (J : Nat → List Value → Mem → α) (R : Int32 → Mem → α) (N : α) (n : Nat) (a0 : Nat) (M : Mem) : h (T_X11_isThen_0 J R N n a0 M) = T_X11_isThen_0 (fun c l M => h (J c l M)) (fun v M => h (R v M)) (h N) n a0 M := by
  simp only [T_X11_isThen_0, nat_ite h, nat_gd h, nat_bnd h, nat_bnd2 h]
set_option maxHeartbeats 4000000 in
set_option maxRecDepth 100000 in
theorem w_X11_isThen_0 {X : Nat × (Nat → Int32)} {al : Bool} {n : Nat} {Q : Option Value → Mem → Prop} {J : Nat → List Value → Mem → Prop} (hJ : ∀ c l M, J c l M → PW_X11_isThen X al n Q c l M) {R : Int32 → Mem → Prop} (hR : ∀ v M, R v M → Q (some (.int v)) M) {a0 : Nat} {M : Mem} (h : T_X11_isThen_0 J R False n a0 M) : AW X (RX11, cX11_isThen, 3, (some .boolean), false, al, n) 0 0 0 [(0, .ref a0)] [] M Q := by
  unfold T_X11_isThen_0 at h
  refine a_aload_n dX11_isThen_0 rfl rfl ?_
  obtain ⟨⟨ga1, gs2⟩, h⟩ := gd_t h
  refine a_get (v := .int (M.2.2.1 a0 24)) dX11_isThen_1 fl_11_151 ga1 gs2 rfl ?_
  refine a_aload_n dX11_isThen_4 rfl rfl ?_
  refine a_get (v := .int (M.2.2.1 a0 59)) dX11_isThen_5 fl_11_426 ga1 gs2 rfl ?_
  refine a_icmp_ne 15 dX11_isThen_8 (by decide) (fun c3 => ?_) (fun c3 => ?_)
  · replace h := ite_f c3 h
    refine a_iconst (v := 0) dX11_isThen_15 (by decide) ?_
    refine a_istore_n dX11_isThen_16 rfl (Nat.le_of_ble_eq_true rfl) (lv2 := [(1, .int 0), (0, .ref a0)]) rfl ?_
    refine a_iconst (v := 0) dX11_isThen_17 (by decide) ?_
    refine a_istore_n dX11_isThen_18 rfl (Nat.le_of_ble_eq_true rfl) (lv2 := [(2, .int 0), (1, .int 0), (0, .ref a0)]) rfl ?_
    exact a_lv (lv2 := [(0, .ref a0), (1, .int 0), (2, .int 0)]) (fa_cons rfl (fa_cons rfl (fa_cons rfl fa_nil))) (hJ _ _ _ h)
  · replace h := ite_t c3 h
    refine a_iconst (v := 1) dX11_isThen_11 (by decide) ?_
    refine a_goto 16 dX11_isThen_12 (by decide) ?_
    refine a_istore_n dX11_isThen_16 rfl (Nat.le_of_ble_eq_true rfl) (lv2 := [(1, .int 1), (0, .ref a0)]) rfl ?_
    refine a_iconst (v := 0) dX11_isThen_17 (by decide) ?_
    refine a_istore_n dX11_isThen_18 rfl (Nat.le_of_ble_eq_true rfl) (lv2 := [(2, .int 0), (1, .int 1), (0, .ref a0)]) rfl ?_
    exact a_lv (lv2 := [(0, .ref a0), (1, .int 1), (2, .int 0)]) (fa_cons rfl (fa_cons rfl (fa_cons rfl fa_nil))) (hJ _ _ _ h)
set_option maxHeartbeats 4000000 in
set_option maxRecDepth 100000 in
noncomputable def T_X11_isThen_19.{u} {α : Sort u} (J : Nat → List Value → Mem → α) (R : Int32 → Mem → α) (N : α) (n : Nat) (a0 : Nat) (x1 : Int32) (x2 : Int32) (M : Mem) : α := gd (fO M a0 11) N (if (M.2.2.1 a0 24) ≤ x2 then gd (narrow .boolean (.int x1) = .int x1) N (R x1 M) else if x1 = 0 then gd (narrow .boolean (.int x1) = .int x1) N (R x1 M) else bnd (M.2.2.2.2 a0 20) N (fun r7 => gd (fA M r7 1 x2) N (bnd (M.2.2.2.2 a0 57) N (fun r13 => gd (fA M r13 1 x2) N (if (M.2.2.1 r7 (x2.toNatClampNeg)) = (M.2.2.1 r13 (x2.toNatClampNeg)) then bnd (M.2.2.2.2 a0 21) N (fun r20 => gd (fA M r20 1 x2) N (bnd (M.2.2.2.2 a0 58) N (fun r26 => gd (fA M r26 1 x2) N (if (M.2.2.1 r20 (x2.toNatClampNeg)) = (M.2.2.1 r26 (x2.toNatClampNeg)) then J 19 [.ref a0, .int 1, .int (x2 + 1)] M else J 19 [.ref a0, .int 0, .int (x2 + 1)] M)))) else J 19 [.ref a0, .int 0, .int (x2 + 1)] M)))))
set_option maxHeartbeats 4000000 in
set_option maxRecDepth 100000 in
theorem n_X11_isThen_19.{u, v} {α : Sort u} {β : Sort v} (h : α → β) (J : Nat → List Value → Mem → α) (R : Int32 → Mem → α) (N : α) (n : Nat) (a0 : Nat) (x1 : Int32) (x2 : Int32) (M : Mem) : h (T_X11_isThen_19 J R N n a0 x1 x2 M) = T_X11_isThen_19 (fun c l M => h (J c l M)) (fun v M => h (R v M)) (h N) n a0 x1 x2 M := by
  simp only [T_X11_isThen_19, nat_ite h, nat_gd h, nat_bnd h, nat_bnd2 h]
set_option maxHeartbeats 4000000 in
set_option maxRecDepth 100000 in
theorem w_X11_isThen_19 {X : Nat × (Nat → Int32)} {al : Bool} {n : Nat} {Q : Option Value → Mem → Prop} {J : Nat → List Value → Mem → Prop} (hJ : ∀ c l M, J c l M → PW_X11_isThen X al n Q c l M) {R : Int32 → Mem → Prop} (hR : ∀ v M, R v M → Q (some (.int v)) M) {a0 : Nat} {x1 : Int32} {x2 : Int32} {M : Mem} (h : T_X11_isThen_19 J R False n a0 x1 x2 M) : AW X (RX11, cX11_isThen, 3, (some .boolean), false, al, n) 0 0 19 [(0, .ref a0), (1, .int x1), (2, .int x2)] [] M Q := by
  unfold T_X11_isThen_19 at h
  refine a_iload_n dX11_isThen_19 rfl rfl ?_
  refine a_aload_n dX11_isThen_20 rfl rfl ?_
  obtain ⟨⟨ga1, gs2⟩, h⟩ := gd_t h
  refine a_get (v := .int (M.2.2.1 a0 24)) dX11_isThen_21 fl_11_151 ga1 gs2 rfl ?_
  refine a_icmp_ge 73 dX11_isThen_24 (by decide) (fun c3 => ?_) (fun c3 => ?_)
  · replace h := ite_t c3 h
    refine a_iload_n dX11_isThen_73 rfl rfl ?_
    obtain ⟨gb4, h⟩ := gd_t h
    exact a_zret dX11_isThen_74 rfl gb4 (hR _ _ h)
  · replace h := ite_f c3 h
    refine a_iload_n dX11_isThen_27 rfl rfl ?_
    refine a_if_eq 73 dX11_isThen_28 (by decide) (fun c5 => ?_) (fun c5 => ?_)
    · replace h := ite_t c5 h
      refine a_iload_n dX11_isThen_73 rfl rfl ?_
      obtain ⟨gb6, h⟩ := gd_t h
      exact a_zret dX11_isThen_74 rfl gb6 (hR _ _ h)
    · replace h := ite_f c5 h
      refine a_aload_n dX11_isThen_31 rfl rfl ?_
      obtain ⟨r7, e8, h⟩ := bnd_t h
      refine a_get (v := .ref r7) dX11_isThen_32 fl_11_59 ga1 gs2 (gvR e8 rfl) ?_
      refine a_iload_n dX11_isThen_35 rfl rfl ?_
      obtain ⟨⟨ga9, gn10, gs11, gi12⟩, h⟩ := gd_t h
      refine a_iaload dX11_isThen_36 ga9 gs11 gi12 ?_
      refine a_aload_n dX11_isThen_37 rfl rfl ?_
      obtain ⟨r13, e14, h⟩ := bnd_t h
      refine a_get (v := .ref r13) dX11_isThen_38 fl_11_117 ga1 gs2 (gvR e14 rfl) ?_
      refine a_iload_n dX11_isThen_41 rfl rfl ?_
      obtain ⟨⟨ga15, gn16, gs17, gi18⟩, h⟩ := gd_t h
      refine a_iaload dX11_isThen_42 ga15 gs17 gi18 ?_
      refine a_icmp_ne 65 dX11_isThen_43 (by decide) (fun c19 => ?_) (fun c19 => ?_)
      · replace h := ite_f c19 h
        refine a_iconst (v := 0) dX11_isThen_65 (by decide) ?_
        refine a_istore_n dX11_isThen_66 rfl (Nat.le_of_ble_eq_true rfl) (lv2 := [(1, .int 0), (0, .ref a0), (2, .int x2)]) rfl ?_
        refine a_iinc (v := (x2 + 1)) dX11_isThen_67 rfl (by first | rfl | decide) (Nat.le_of_ble_eq_true rfl) (lv2 := [(2, .int (x2 + 1)), (1, .int 0), (0, .ref a0)]) rfl ?_
        refine a_goto 19 dX11_isThen_70 (by decide) ?_
        exact a_lv (lv2 := [(0, .ref a0), (1, .int 0), (2, .int (x2 + 1))]) (fa_cons rfl (fa_cons rfl (fa_cons rfl fa_nil))) (hJ _ _ _ h)
      · replace h := ite_t c19 h
        refine a_aload_n dX11_isThen_46 rfl rfl ?_
        obtain ⟨r20, e21, h⟩ := bnd_t h
        refine a_get (v := .ref r20) dX11_isThen_47 fl_11_62 ga1 gs2 (gvR e21 rfl) ?_
        refine a_iload_n dX11_isThen_50 rfl rfl ?_
        obtain ⟨⟨ga22, gn23, gs24, gi25⟩, h⟩ := gd_t h
        refine a_iaload dX11_isThen_51 ga22 gs24 gi25 ?_
        refine a_aload_n dX11_isThen_52 rfl rfl ?_
        obtain ⟨r26, e27, h⟩ := bnd_t h
        refine a_get (v := .ref r26) dX11_isThen_53 fl_11_120 ga1 gs2 (gvR e27 rfl) ?_
        refine a_iload_n dX11_isThen_56 rfl rfl ?_
        obtain ⟨⟨ga28, gn29, gs30, gi31⟩, h⟩ := gd_t h
        refine a_iaload dX11_isThen_57 ga28 gs30 gi31 ?_
        refine a_icmp_ne 65 dX11_isThen_58 (by decide) (fun c32 => ?_) (fun c32 => ?_)
        · replace h := ite_f c32 h
          refine a_iconst (v := 0) dX11_isThen_65 (by decide) ?_
          refine a_istore_n dX11_isThen_66 rfl (Nat.le_of_ble_eq_true rfl) (lv2 := [(1, .int 0), (0, .ref a0), (2, .int x2)]) rfl ?_
          refine a_iinc (v := (x2 + 1)) dX11_isThen_67 rfl (by first | rfl | decide) (Nat.le_of_ble_eq_true rfl) (lv2 := [(2, .int (x2 + 1)), (1, .int 0), (0, .ref a0)]) rfl ?_
          refine a_goto 19 dX11_isThen_70 (by decide) ?_
          exact a_lv (lv2 := [(0, .ref a0), (1, .int 0), (2, .int (x2 + 1))]) (fa_cons rfl (fa_cons rfl (fa_cons rfl fa_nil))) (hJ _ _ _ h)
        · replace h := ite_t c32 h
          refine a_iconst (v := 1) dX11_isThen_61 (by decide) ?_
          refine a_goto 66 dX11_isThen_62 (by decide) ?_
          refine a_istore_n dX11_isThen_66 rfl (Nat.le_of_ble_eq_true rfl) (lv2 := [(1, .int 1), (0, .ref a0), (2, .int x2)]) rfl ?_
          refine a_iinc (v := (x2 + 1)) dX11_isThen_67 rfl (by first | rfl | decide) (Nat.le_of_ble_eq_true rfl) (lv2 := [(2, .int (x2 + 1)), (1, .int 1), (0, .ref a0)]) rfl ?_
          refine a_goto 19 dX11_isThen_70 (by decide) ?_
          exact a_lv (lv2 := [(0, .ref a0), (1, .int 1), (2, .int (x2 + 1))]) (fa_cons rfl (fa_cons rfl (fa_cons rfl fa_nil))) (hJ _ _ _ h)
set_option maxHeartbeats 4000000 in
set_option maxRecDepth 100000 in
noncomputable def st_X11_isThen (n : Nat) (s : Sg) : Option (Sg ⊕ (Int32 × Mem)) := if s.1 = 0 then vR s.2.1 none (fun a0 t => vE t none (T_X11_isThen_0 (fun c l M => some (.inl (c, l, M))) (fun v M => some (.inr (v, M))) none n a0 s.2.2)) else if s.1 = 19 then vR s.2.1 none (fun a0 t => vI t none (fun x1 t => vI t none (fun x2 t => vE t none (T_X11_isThen_19 (fun c l M => some (.inl (c, l, M))) (fun v M => some (.inr (v, M))) none n a0 x1 x2 s.2.2)))) else none
noncomputable abbrev g_X11_isThen_0 (n : Nat) (a0 : Nat) (M : Mem) : Option (Int32 × Mem) := lp (st_X11_isThen n) (0, [.ref a0], M)
set_option maxHeartbeats 4000000 in
set_option maxRecDepth 100000 in
theorem ge_X11_isThen_0 (n : Nat) (a0 : Nat) (M : Mem) : g_X11_isThen_0 n a0 M = T_X11_isThen_0 (fun c l M => lp (st_X11_isThen n) (c, l, M)) (fun v M => some (v, M)) none n a0 M := (lp_eq _ _).trans (n_X11_isThen_0 (lpK (st_X11_isThen n)) (fun c l M => some (.inl (c, l, M))) (fun v M => some (.inr (v, M))) none n a0 M)
noncomputable abbrev g_X11_isThen_19 (n : Nat) (a0 : Nat) (x1 : Int32) (x2 : Int32) (M : Mem) : Option (Int32 × Mem) := lp (st_X11_isThen n) (19, [.ref a0, .int x1, .int x2], M)
set_option maxHeartbeats 4000000 in
set_option maxRecDepth 100000 in
theorem ge_X11_isThen_19 (n : Nat) (a0 : Nat) (x1 : Int32) (x2 : Int32) (M : Mem) : g_X11_isThen_19 n a0 x1 x2 M = T_X11_isThen_19 (fun c l M => lp (st_X11_isThen n) (c, l, M)) (fun v M => some (v, M)) none n a0 x1 x2 M := (lp_eq _ _).trans (n_X11_isThen_19 (lpK (st_X11_isThen n)) (fun c l M => some (.inl (c, l, M))) (fun v M => some (.inr (v, M))) none n a0 x1 x2 M)
noncomputable def b_X11_isThen (n : Nat) (a0 : Nat) (M : Mem) : Option (Int32 × Mem) := g_X11_isThen_0 n a0 M
set_option maxHeartbeats 4000000 in
set_option maxRecDepth 100000 in
theorem sb_X11_isThen {X : Nat × (Nat → Int32)} {al : Bool} {n : Nat} {a0 : Nat} {M : Mem} {v : Int32} {M1 : Mem} (h : b_X11_isThen n a0 M = some (v, M1)) : AE yX11_isThen cX11_isThen 3 (some .boolean) al n X [.ref a0] M (some (.int v)) M1 := by
  refine AM.of false (by decide +kernel) (by intro h; cases h) (Nat.le_of_ble_eq_true rfl) ?_
  refine lp_snd (P := fun s r => PW_X11_isThen X al n (fun v M2 => v = (some (.int r.1)) ∧ M2 = r.2) s.1 s.2.1 s.2.2) ?_ h
  clear h
  rintro ⟨c, l, M⟩ r h
  unfold st_X11_isThen at h
  rcases ite_p h with ⟨e, h⟩ | ⟨e, h⟩
  · replace e : c = 0 := e
    subst e
    obtain ⟨a0, tt0, e, h⟩ := vR_p id h
    replace e : l = _ := e
    subst e
    obtain ⟨e, h⟩ := vE_p id h
    replace e : tt0 = [] := e
    subst e
    exact w_X11_isThen_0 (J := fun c l M => PW_X11_isThen X al n (fun v M2 => v = (some (.int r.1)) ∧ M2 = r.2) c l M) (R := fun v M => (v, M) = r) (fun _ _ _ h => h) (fun v M h => by cases h; exact ⟨rfl, rfl⟩) ((n_X11_isThen_0 (lpP (fun (s : Sg) (r : Int32 × Mem) => PW_X11_isThen X al n (fun v M2 => v = (some (.int r.1)) ∧ M2 = r.2) s.1 s.2.1 s.2.2) r) (fun c l M => some (.inl (c, l, M))) (fun v M => some (.inr (v, M))) none n a0 M).mp h)
  rcases ite_p h with ⟨e, h⟩ | ⟨e, h⟩
  · replace e : c = 19 := e
    subst e
    obtain ⟨a0, tt0, e, h⟩ := vR_p id h
    replace e : l = _ := e
    subst e
    obtain ⟨x1, tt1, e, h⟩ := vI_p id h
    replace e : tt0 = _ := e
    subst e
    obtain ⟨x2, tt2, e, h⟩ := vI_p id h
    replace e : tt1 = _ := e
    subst e
    obtain ⟨e, h⟩ := vE_p id h
    replace e : tt2 = [] := e
    subst e
    exact w_X11_isThen_19 (J := fun c l M => PW_X11_isThen X al n (fun v M2 => v = (some (.int r.1)) ∧ M2 = r.2) c l M) (R := fun v M => (v, M) = r) (fun _ _ _ h => h) (fun v M h => by cases h; exact ⟨rfl, rfl⟩) ((n_X11_isThen_19 (lpP (fun (s : Sg) (r : Int32 × Mem) => PW_X11_isThen X al n (fun v M2 => v = (some (.int r.1)) ∧ M2 = r.2) s.1 s.2.1 s.2.2) r) (fun c l M => some (.inl (c, l, M))) (fun v M => some (.inr (v, M))) none n a0 x1 x2 M).mp h)
  · exact h.elim

noncomputable abbrev f_X11_isThen := b_X11_isThen
theorem s_X11_isThen {X : Nat × (Nat → Int32)} {al : Bool} {n : Nat} {a0 : Nat} {M : Mem} {v : Int32} {M1 : Mem} (h : f_X11_isThen n a0 M = some (v, M1)) : AE yX11_isThen cX11_isThen 3 (some .boolean) al n X [.ref a0] M (some (.int v)) M1 := sb_X11_isThen h
def ix_X11_equal (c : Nat) : List Nat := if c = 0 then [0, 1, 2] else if c = 62 then [0, 2, 3] else []
def PW_X11_equal (X : Nat × (Nat → Int32)) (al : Bool) (n : Nat) (Q : Option Value → Mem → Prop) (c : Nat) (l : List Value) (M : Mem) : Prop := AW X (RX11, cX11_equal, 4, (some .int), false, al, n) 0 0 c (List.zip (ix_X11_equal c) l) (l.drop (ix_X11_equal c).length) M Q
set_option maxHeartbeats 4000000 in
set_option maxRecDepth 100000 in
noncomputable def T_X11_equal_0.{u} {α : Sort u} (J : Nat → List Value → Mem → α) (R : Int32 → Mem → α) (N : α) (n : Nat) (a0 : Nat) (x1 : Int32) (x2 : Int32) (M : Mem) : α := gd (fO M a0 11) N (bnd2 (cal n (fun n => f_X11_isSlot n x1 (wI M a0 0 0))) N (fun v3 M4 => if v3 = 0 then R (-2) M4 else bnd2 (cal n (fun n => f_X11_isSlot n x2 M4)) N (fun v9 M10 => if v9 = 0 then R (-2) M10 else gd (fO M10 a0 11) N (bnd2 (cal n (fun n => f_X11_isEmpty n a0 x1 M10)) N (fun v17 M18 => if v17 = 0 then gd (fO M18 a0 11) N (bnd2 (cal n (fun n => f_X11_isEmpty n a0 x2 M18)) N (fun v25 M26 => if v25 = 0 then gd (fO M26 a0 11) N (bnd2 (cal n (fun n => f_X11_takes n a0 x1 M26)) N (fun _ M33 => gd (fO M33 a0 11) N (bnd2 (cal n (fun n => f_X11_keepsBeside n a0 M33)) N (fun _ M39 => gd (fO M39 a0 11) N (bnd (M39.2.2.2.2 a0 19) N (fun r45 => gd (fA M39 r45 1 x2) N (J 62 [.ref a0, .int x2, .int 0] (wI M39 a0 24 (M39.2.2.1 r45 (x2.toNatClampNeg)))))))))) else R (-5) M26)) else R (-5) M18)))))
set_option maxHeartbeats 4000000 in
set_option maxRecDepth 100000 in
theorem n_X11_equal_0.{u, v} {α : Sort u} {β : Sort v} (h : α → β) (J : Nat → List Value → Mem → α) (R : Int32 → Mem → α) (N : α) (n : Nat) (a0 : Nat) (x1 : Int32) (x2 : Int32) (M : Mem) : h (T_X11_equal_0 J R N n a0 x1 x2 M) = T_X11_equal_0 (fun c l M => h (J c l M)) (fun v M => h (R v M)) (h N) n a0 x1 x2 M := by
  simp only [T_X11_equal_0, nat_ite h, nat_gd h, nat_bnd h, nat_bnd2 h]
set_option maxHeartbeats 4000000 in
set_option maxRecDepth 100000 in
theorem w_X11_equal_0 {X : Nat × (Nat → Int32)} {al : Bool} {n : Nat} {Q : Option Value → Mem → Prop} {J : Nat → List Value → Mem → Prop} (hJ : ∀ c l M, J c l M → PW_X11_equal X al n Q c l M) {R : Int32 → Mem → Prop} (hR : ∀ v M, R v M → Q (some (.int v)) M) {a0 : Nat} {x1 : Int32} {x2 : Int32} {M : Mem} (h : T_X11_equal_0 J R False n a0 x1 x2 M) : AW X (RX11, cX11_equal, 4, (some .int), false, al, n) 0 0 0 [(0, .ref a0), (1, .int x1), (2, .int x2)] [] M Q := by
  unfold T_X11_equal_0 at h
  refine a_aload_n dX11_equal_0 rfl rfl ?_
  refine a_iconst (v := 0) dX11_equal_1 (by decide) ?_
  obtain ⟨⟨ga1, gs2⟩, h⟩ := gd_t h
  refine a_putI dX11_equal_2 (Or.inl ⟨fl_11_1, Or.inl rfl⟩) rfl ga1 gs2 rfl rfl ?_
  refine a_iload_n dX11_equal_5 rfl rfl ?_
  obtain ⟨v3, M4, e5, h⟩ := bnd2_t h
  obtain ⟨n6, en7, e5⟩ := cal_t e5
  refine e_callS (As := [.int x1]) (st := []) false dX11_equal_6 mw_X11_isSlot (Or.inl ⟨rfl, ml_X11_271⟩) sm_X11_isSlot rfl (Nat.le_of_ble_eq_true rfl) en7 (s_X11_isSlot e5) ?_
  refine a_if_eq 19 dX11_equal_9 (by decide) (fun c8 => ?_) (fun c8 => ?_)
  · replace h := ite_t c8 h
    refine a_bipush (v := -2) dX11_equal_19 (by decide) ?_
    exact a_iret dX11_equal_21 rfl (hR _ _ h)
  · replace h := ite_f c8 h
    refine a_iload_n dX11_equal_12 rfl rfl ?_
    obtain ⟨v9, M10, e11, h⟩ := bnd2_t h
    obtain ⟨n12, en13, e11⟩ := cal_t e11
    refine e_callS (As := [.int x2]) (st := []) false dX11_equal_13 mw_X11_isSlot (Or.inl ⟨rfl, ml_X11_271⟩) sm_X11_isSlot rfl (Nat.le_of_ble_eq_true rfl) en13 (s_X11_isSlot e11) ?_
    refine a_if_ne 22 dX11_equal_16 (by decide) (fun c14 => ?_) (fun c14 => ?_)
    · replace h := ite_f c14 h
      refine a_aload_n dX11_equal_22 rfl rfl ?_
      refine a_iload_n dX11_equal_23 rfl rfl ?_
      obtain ⟨⟨ga15, gs16⟩, h⟩ := gd_t h
      obtain ⟨v17, M18, e19, h⟩ := bnd2_t h
      obtain ⟨n20, en21, e19⟩ := cal_t e19
      refine e_callV (As := [.int x1]) (st := []) (a := a0) (ci := 11) false dX11_equal_24 mw_X11_isEmpty (Or.inl ⟨rfl, ml_X11_343⟩) im_X11_isEmpty se_X11_isEmpty (by decide) ga15 gs16 rfl (Nat.le_of_ble_eq_true rfl) en21 (s_X11_isEmpty e19) ?_
      refine a_if_ne 38 dX11_equal_27 (by decide) (fun c22 => ?_) (fun c22 => ?_)
      · replace h := ite_f c22 h
        refine a_bipush (v := -5) dX11_equal_38 (by decide) ?_
        exact a_iret dX11_equal_40 rfl (hR _ _ h)
      · replace h := ite_t c22 h
        refine a_aload_n dX11_equal_30 rfl rfl ?_
        refine a_iload_n dX11_equal_31 rfl rfl ?_
        obtain ⟨⟨ga23, gs24⟩, h⟩ := gd_t h
        obtain ⟨v25, M26, e27, h⟩ := bnd2_t h
        obtain ⟨n28, en29, e27⟩ := cal_t e27
        refine e_callV (As := [.int x2]) (st := []) (a := a0) (ci := 11) false dX11_equal_32 mw_X11_isEmpty (Or.inl ⟨rfl, ml_X11_343⟩) im_X11_isEmpty se_X11_isEmpty (by decide) ga23 gs24 rfl (Nat.le_of_ble_eq_true rfl) en29 (s_X11_isEmpty e27) ?_
        refine a_if_eq 41 dX11_equal_35 (by decide) (fun c30 => ?_) (fun c30 => ?_)
        · replace h := ite_t c30 h
          refine a_aload_n dX11_equal_41 rfl rfl ?_
          refine a_iload_n dX11_equal_42 rfl rfl ?_
          obtain ⟨⟨ga31, gs32⟩, h⟩ := gd_t h
          obtain ⟨_, M33, e34, h⟩ := bnd2_t h
          obtain ⟨n35, en36, e34⟩ := cal_t e34
          refine e_callV (As := [.int x1]) (st := []) (a := a0) (ci := 11) false dX11_equal_43 mw_X11_takes (Or.inl ⟨rfl, ml_X11_346⟩) im_X11_takes se_X11_takes (by decide) ga31 gs32 rfl (Nat.le_of_ble_eq_true rfl) en36 (s_X11_takes e34) ?_
          refine a_aload_n dX11_equal_46 rfl rfl ?_
          obtain ⟨⟨ga37, gs38⟩, h⟩ := gd_t h
          obtain ⟨_, M39, e40, h⟩ := bnd2_t h
          obtain ⟨n41, en42, e40⟩ := cal_t e40
          refine e_callV (As := []) (st := []) (a := a0) (ci := 11) false dX11_equal_47 mw_X11_keepsBeside (Or.inl ⟨rfl, ml_X11_429⟩) im_X11_keepsBeside se_X11_keepsBeside (by decide) ga37 gs38 rfl (Nat.le_of_ble_eq_true rfl) en42 (s_X11_keepsBeside e40) ?_
          refine a_aload_n dX11_equal_50 rfl rfl ?_
          refine a_aload_n dX11_equal_51 rfl rfl ?_
          obtain ⟨⟨ga43, gs44⟩, h⟩ := gd_t h
          obtain ⟨r45, e46, h⟩ := bnd_t h
          refine a_get (v := .ref r45) dX11_equal_52 fl_11_56 ga43 gs44 (gvR e46 rfl) ?_
          refine a_iload_n dX11_equal_55 rfl rfl ?_
          obtain ⟨⟨ga47, gn48, gs49, gi50⟩, h⟩ := gd_t h
          refine a_iaload dX11_equal_56 ga47 gs49 gi50 ?_
          refine a_putI dX11_equal_57 (Or.inl ⟨fl_11_151, Or.inl rfl⟩) rfl ga43 gs44 rfl rfl ?_
          refine a_iconst (v := 0) dX11_equal_60 (by decide) ?_
          refine a_istore_n dX11_equal_61 rfl (Nat.le_of_ble_eq_true rfl) (lv2 := [(3, .int 0), (0, .ref a0), (1, .int x1), (2, .int x2)]) rfl ?_
          exact a_lv (lv2 := [(0, .ref a0), (2, .int x2), (3, .int 0)]) (fa_cons rfl (fa_cons rfl (fa_cons rfl fa_nil))) (hJ _ _ _ h)
        · replace h := ite_f c30 h
          refine a_bipush (v := -5) dX11_equal_38 (by decide) ?_
          exact a_iret dX11_equal_40 rfl (hR _ _ h)
    · replace h := ite_t c14 h
      refine a_bipush (v := -2) dX11_equal_19 (by decide) ?_
      exact a_iret dX11_equal_21 rfl (hR _ _ h)
set_option maxHeartbeats 4000000 in
set_option maxRecDepth 100000 in
noncomputable def T_X11_equal_62.{u} {α : Sort u} (J : Nat → List Value → Mem → α) (R : Int32 → Mem → α) (N : α) (n : Nat) (a0 : Nat) (x2 : Int32) (x3 : Int32) (M : Mem) : α := gd (fO M a0 11) N (if (M.2.2.1 a0 24) ≤ x3 then bnd2 (cal n (fun n => f_X11_isThen n a0 M)) N (fun v4 M5 => if v4 = 0 then R 0 M5 else R 1 M5) else bnd (M.2.2.2.2 a0 20) N (fun r10 => bnd (M.2.2.2.2 a0 17) N (fun r12 => gd (fA M r12 1 ((200 * x2) + x3)) N (gd (fA M r10 1 x3) N (bnd (M.2.2.2.2 a0 21) N (fun r22 => bnd (M.2.2.2.2 a0 18) N (fun r24 => gd (fA M r24 1 ((200 * x2) + x3)) N (gd (fA M r22 1 x3) N (J 62 [.ref a0, .int x2, .int (x3 + 1)] (wI (wI M r10 (x3.toNatClampNeg) (M.2.2.1 r12 (((200 * x2) + x3).toNatClampNeg))) r22 (x3.toNatClampNeg) ((wI M r10 (x3.toNatClampNeg) (M.2.2.1 r12 (((200 * x2) + x3).toNatClampNeg))).2.2.1 r24 (((200 * x2) + x3).toNatClampNeg))))))))))))
set_option maxHeartbeats 4000000 in
set_option maxRecDepth 100000 in
theorem n_X11_equal_62.{u, v} {α : Sort u} {β : Sort v} (h : α → β) (J : Nat → List Value → Mem → α) (R : Int32 → Mem → α) (N : α) (n : Nat) (a0 : Nat) (x2 : Int32) (x3 : Int32) (M : Mem) : h (T_X11_equal_62 J R N n a0 x2 x3 M) = T_X11_equal_62 (fun c l M => h (J c l M)) (fun v M => h (R v M)) (h N) n a0 x2 x3 M := by
  simp only [T_X11_equal_62, nat_ite h, nat_gd h, nat_bnd h, nat_bnd2 h]
set_option maxHeartbeats 4000000 in
set_option maxRecDepth 100000 in
theorem w_X11_equal_62 {X : Nat × (Nat → Int32)} {al : Bool} {n : Nat} {Q : Option Value → Mem → Prop} {J : Nat → List Value → Mem → Prop} (hJ : ∀ c l M, J c l M → PW_X11_equal X al n Q c l M) {R : Int32 → Mem → Prop} (hR : ∀ v M, R v M → Q (some (.int v)) M) {a0 : Nat} {x2 : Int32} {x3 : Int32} {M : Mem} (h : T_X11_equal_62 J R False n a0 x2 x3 M) : AW X (RX11, cX11_equal, 4, (some .int), false, al, n) 0 0 62 [(0, .ref a0), (2, .int x2), (3, .int x3)] [] M Q := by
  unfold T_X11_equal_62 at h
  refine a_iload_n dX11_equal_62 rfl rfl ?_
  refine a_aload_n dX11_equal_63 rfl rfl ?_
  obtain ⟨⟨ga1, gs2⟩, h⟩ := gd_t h
  refine a_get (v := .int (M.2.2.1 a0 24)) dX11_equal_64 fl_11_151 ga1 gs2 rfl ?_
  refine a_icmp_ge 112 dX11_equal_67 (by decide) (fun c3 => ?_) (fun c3 => ?_)
  · replace h := ite_t c3 h
    refine a_aload_n dX11_equal_112 rfl rfl ?_
    obtain ⟨v4, M5, e6, h⟩ := bnd2_t h
    obtain ⟨n7, en8, e6⟩ := cal_t e6
    refine e_callV (As := []) (st := []) (a := a0) (ci := 11) false dX11_equal_113 mw_X11_isThen (Or.inl ⟨rfl, ml_X11_432⟩) im_X11_isThen se_X11_isThen (by decide) ga1 gs2 rfl (Nat.le_of_ble_eq_true rfl) en8 (s_X11_isThen e6) ?_
    refine a_if_eq 123 dX11_equal_116 (by decide) (fun c9 => ?_) (fun c9 => ?_)
    · replace h := ite_t c9 h
      refine a_iconst (v := 0) dX11_equal_123 (by decide) ?_
      exact a_iret dX11_equal_124 rfl (hR _ _ h)
    · replace h := ite_f c9 h
      refine a_iconst (v := 1) dX11_equal_119 (by decide) ?_
      refine a_goto 124 dX11_equal_120 (by decide) ?_
      exact a_iret dX11_equal_124 rfl (hR _ _ h)
  · replace h := ite_f c3 h
    refine a_aload_n dX11_equal_70 rfl rfl ?_
    obtain ⟨r10, e11, h⟩ := bnd_t h
    refine a_get (v := .ref r10) dX11_equal_71 fl_11_59 ga1 gs2 (gvR e11 rfl) ?_
    refine a_iload_n dX11_equal_74 rfl rfl ?_
    refine a_aload_n dX11_equal_75 rfl rfl ?_
    obtain ⟨r12, e13, h⟩ := bnd_t h
    refine a_get (v := .ref r12) dX11_equal_76 fl_11_50 ga1 gs2 (gvR e13 rfl) ?_
    refine a_sipush (v := 200) dX11_equal_79 (by decide) ?_
    refine a_iload_n dX11_equal_82 rfl rfl ?_
    refine a_imul dX11_equal_83 ?_
    refine a_iload_n dX11_equal_84 rfl rfl ?_
    refine a_iadd dX11_equal_85 ?_
    obtain ⟨⟨ga14, gn15, gs16, gi17⟩, h⟩ := gd_t h
    refine a_iaload dX11_equal_86 ga14 gs16 gi17 ?_
    obtain ⟨⟨ga18, gn19, gs20, gi21⟩, h⟩ := gd_t h
    refine a_iastore dX11_equal_87 ga18 gs20 gi21 ?_
    refine a_aload_n dX11_equal_88 rfl rfl ?_
    obtain ⟨r22, e23, h⟩ := bnd_t h
    refine a_get (v := .ref r22) dX11_equal_89 fl_11_62 ga1 gs2 (gvR e23 rfl) ?_
    refine a_iload_n dX11_equal_92 rfl rfl ?_
    refine a_aload_n dX11_equal_93 rfl rfl ?_
    obtain ⟨r24, e25, h⟩ := bnd_t h
    refine a_get (v := .ref r24) dX11_equal_94 fl_11_53 ga1 gs2 (gvR e25 rfl) ?_
    refine a_sipush (v := 200) dX11_equal_97 (by decide) ?_
    refine a_iload_n dX11_equal_100 rfl rfl ?_
    refine a_imul dX11_equal_101 ?_
    refine a_iload_n dX11_equal_102 rfl rfl ?_
    refine a_iadd dX11_equal_103 ?_
    obtain ⟨⟨ga26, gn27, gs28, gi29⟩, h⟩ := gd_t h
    refine a_iaload dX11_equal_104 ga26 gs28 gi29 ?_
    obtain ⟨⟨ga30, gn31, gs32, gi33⟩, h⟩ := gd_t h
    refine a_iastore dX11_equal_105 ga30 gs32 gi33 ?_
    refine a_iinc (v := (x3 + 1)) dX11_equal_106 rfl (by first | rfl | decide) (Nat.le_of_ble_eq_true rfl) (lv2 := [(3, .int (x3 + 1)), (0, .ref a0), (2, .int x2)]) rfl ?_
    refine a_goto 62 dX11_equal_109 (by decide) ?_
    exact a_lv (lv2 := [(0, .ref a0), (2, .int x2), (3, .int (x3 + 1))]) (fa_cons rfl (fa_cons rfl (fa_cons rfl fa_nil))) (hJ _ _ _ h)
set_option maxHeartbeats 4000000 in
set_option maxRecDepth 100000 in
noncomputable def st_X11_equal (n : Nat) (s : Sg) : Option (Sg ⊕ (Int32 × Mem)) := if s.1 = 0 then vR s.2.1 none (fun a0 t => vI t none (fun x1 t => vI t none (fun x2 t => vE t none (T_X11_equal_0 (fun c l M => some (.inl (c, l, M))) (fun v M => some (.inr (v, M))) none n a0 x1 x2 s.2.2)))) else if s.1 = 62 then vR s.2.1 none (fun a0 t => vI t none (fun x2 t => vI t none (fun x3 t => vE t none (T_X11_equal_62 (fun c l M => some (.inl (c, l, M))) (fun v M => some (.inr (v, M))) none n a0 x2 x3 s.2.2)))) else none
noncomputable abbrev g_X11_equal_0 (n : Nat) (a0 : Nat) (x1 : Int32) (x2 : Int32) (M : Mem) : Option (Int32 × Mem) := lp (st_X11_equal n) (0, [.ref a0, .int x1, .int x2], M)
set_option maxHeartbeats 4000000 in
set_option maxRecDepth 100000 in
theorem ge_X11_equal_0 (n : Nat) (a0 : Nat) (x1 : Int32) (x2 : Int32) (M : Mem) : g_X11_equal_0 n a0 x1 x2 M = T_X11_equal_0 (fun c l M => lp (st_X11_equal n) (c, l, M)) (fun v M => some (v, M)) none n a0 x1 x2 M := (lp_eq _ _).trans (n_X11_equal_0 (lpK (st_X11_equal n)) (fun c l M => some (.inl (c, l, M))) (fun v M => some (.inr (v, M))) none n a0 x1 x2 M)
noncomputable abbrev g_X11_equal_62 (n : Nat) (a0 : Nat) (x2 : Int32) (x3 : Int32) (M : Mem) : Option (Int32 × Mem) := lp (st_X11_equal n) (62, [.ref a0, .int x2, .int x3], M)
set_option maxHeartbeats 4000000 in
set_option maxRecDepth 100000 in
theorem ge_X11_equal_62 (n : Nat) (a0 : Nat) (x2 : Int32) (x3 : Int32) (M : Mem) : g_X11_equal_62 n a0 x2 x3 M = T_X11_equal_62 (fun c l M => lp (st_X11_equal n) (c, l, M)) (fun v M => some (v, M)) none n a0 x2 x3 M := (lp_eq _ _).trans (n_X11_equal_62 (lpK (st_X11_equal n)) (fun c l M => some (.inl (c, l, M))) (fun v M => some (.inr (v, M))) none n a0 x2 x3 M)
noncomputable def b_X11_equal (n : Nat) (a0 : Nat) (x1 : Int32) (x2 : Int32) (M : Mem) : Option (Int32 × Mem) := g_X11_equal_0 n a0 x1 x2 M
set_option maxHeartbeats 4000000 in
set_option maxRecDepth 100000 in
theorem sb_X11_equal {X : Nat × (Nat → Int32)} {al : Bool} {n : Nat} {a0 : Nat} {x1 : Int32} {x2 : Int32} {M : Mem} {v : Int32} {M1 : Mem} (h : b_X11_equal n a0 x1 x2 M = some (v, M1)) : AE yX11_equal cX11_equal 4 (some .int) al n X [.ref a0, .int x1, .int x2] M (some (.int v)) M1 := by
  refine AM.of false (by decide +kernel) (by intro h; cases h) (Nat.le_of_ble_eq_true rfl) ?_
  refine lp_snd (P := fun s r => PW_X11_equal X al n (fun v M2 => v = (some (.int r.1)) ∧ M2 = r.2) s.1 s.2.1 s.2.2) ?_ h
  clear h
  rintro ⟨c, l, M⟩ r h
  unfold st_X11_equal at h
  rcases ite_p h with ⟨e, h⟩ | ⟨e, h⟩
  · replace e : c = 0 := e
    subst e
    obtain ⟨a0, tt0, e, h⟩ := vR_p id h
    replace e : l = _ := e
    subst e
    obtain ⟨x1, tt1, e, h⟩ := vI_p id h
    replace e : tt0 = _ := e
    subst e
    obtain ⟨x2, tt2, e, h⟩ := vI_p id h
    replace e : tt1 = _ := e
    subst e
    obtain ⟨e, h⟩ := vE_p id h
    replace e : tt2 = [] := e
    subst e
    exact w_X11_equal_0 (J := fun c l M => PW_X11_equal X al n (fun v M2 => v = (some (.int r.1)) ∧ M2 = r.2) c l M) (R := fun v M => (v, M) = r) (fun _ _ _ h => h) (fun v M h => by cases h; exact ⟨rfl, rfl⟩) ((n_X11_equal_0 (lpP (fun (s : Sg) (r : Int32 × Mem) => PW_X11_equal X al n (fun v M2 => v = (some (.int r.1)) ∧ M2 = r.2) s.1 s.2.1 s.2.2) r) (fun c l M => some (.inl (c, l, M))) (fun v M => some (.inr (v, M))) none n a0 x1 x2 M).mp h)
  rcases ite_p h with ⟨e, h⟩ | ⟨e, h⟩
  · replace e : c = 62 := e
    subst e
    obtain ⟨a0, tt0, e, h⟩ := vR_p id h
    replace e : l = _ := e
    subst e
    obtain ⟨x2, tt1, e, h⟩ := vI_p id h
    replace e : tt0 = _ := e
    subst e
    obtain ⟨x3, tt2, e, h⟩ := vI_p id h
    replace e : tt1 = _ := e
    subst e
    obtain ⟨e, h⟩ := vE_p id h
    replace e : tt2 = [] := e
    subst e
    exact w_X11_equal_62 (J := fun c l M => PW_X11_equal X al n (fun v M2 => v = (some (.int r.1)) ∧ M2 = r.2) c l M) (R := fun v M => (v, M) = r) (fun _ _ _ h => h) (fun v M h => by cases h; exact ⟨rfl, rfl⟩) ((n_X11_equal_62 (lpP (fun (s : Sg) (r : Int32 × Mem) => PW_X11_equal X al n (fun v M2 => v = (some (.int r.1)) ∧ M2 = r.2) s.1 s.2.1 s.2.2) r) (fun c l M => some (.inl (c, l, M))) (fun v M => some (.inr (v, M))) none n a0 x2 x3 M).mp h)
  · exact h.elim

noncomputable abbrev f_X11_equal := b_X11_equal
theorem s_X11_equal {X : Nat × (Nat → Int32)} {al : Bool} {n : Nat} {a0 : Nat} {x1 : Int32} {x2 : Int32} {M : Mem} {v : Int32} {M1 : Mem} (h : f_X11_equal n a0 x1 x2 M = some (v, M1)) : AE yX11_equal cX11_equal 4 (some .int) al n X [.ref a0, .int x1, .int x2] M (some (.int v)) M1 := sb_X11_equal h
set_option maxHeartbeats 4000000 in
set_option maxRecDepth 100000 in
noncomputable def T_X10_alike_0.{u} {α : Sort u} (R : Int32 → Mem → α) (N : α) (n : Nat) (a0 : Nat) (x1 : Int32) (x2 : Int32) (M : Mem) : α := bnd2 (cal n (fun n => f_X10_noSlot n x1 M)) N (fun v1 M2 => if v1 = 0 then bnd2 (cal n (fun n => f_X10_noSlot n x2 M2)) N (fun v7 M8 => if v7 = 0 then gd (fO M8 a0 10) N (bnd (M8.2.2.2.2 a0 5) N (fun r15 => gd (fA M8 r15 4 x1) N (bnd (M8.2.2.2.2 r15 (x1.toNatClampNeg)) N (fun r21 => gd (fO M8 r21 9) N (if (M8.2.2.1 r21 2) = 0 then R (-5) M8 else gd (fA M8 r15 4 x2) N (bnd (M8.2.2.2.2 r15 (x2.toNatClampNeg)) N (fun r30 => gd (fO M8 r30 9) N (if (M8.2.2.1 r30 2) = 0 then R (-5) M8 else bnd (M8.2.2.2.2 a0 8) N (fun r35 => bnd (M8.2.2.2.2 r15 (x1.toNatClampNeg)) N (fun r37 => bnd (M8.2.2.2.2 a0 13) N (fun r39 => gd (fO M8 r35 7) N (bnd2 (cal n (fun n => f_X7_reduceAll n r35 r37 r39 M8)) N (fun v43 M44 => if 0 ≤ v43 then gd (fO M44 a0 10) N (bnd (M44.2.2.2.2 a0 6) N (fun r51 => bnd (M44.2.2.2.2 a0 8) N (fun r53 => gd (fO M44 r53 7) N (bnd2 (cal n (fun n => f_X7_reduced n r53 M44)) N (fun v57 M58 => gd (fO M58 r51 9) N (bnd2 (cal n (fun n => f_X9_takeOver n r51 v57 M58)) N (fun _ M64 => gd (fO M64 a0 10) N (bnd (M64.2.2.2.2 a0 8) N (fun r70 => bnd (M64.2.2.2.2 a0 5) N (fun r72 => gd (fA M64 r72 4 x2) N (bnd (M64.2.2.2.2 r72 (x2.toNatClampNeg)) N (fun r78 => bnd (M64.2.2.2.2 a0 13) N (fun r80 => gd (fO M64 r70 7) N (bnd2 (cal n (fun n => f_X7_reduceAll n r70 r78 r80 M64)) N (fun v84 M85 => if 0 ≤ v84 then gd (fO M85 a0 10) N (bnd (M85.2.2.2.2 a0 6) N (fun r92 => bnd (M85.2.2.2.2 a0 8) N (fun r94 => gd (fO M85 r94 7) N (bnd2 (cal n (fun n => f_X7_reduced n r94 M85)) N (fun v98 M99 => gd (fO M99 r92 9) N (bnd2 (cal n (fun n => f_X9_sameAs n r92 v98 M99)) N (fun v105 M106 => if v105 = 0 then R 0 M106 else R 1 M106))))))) else R (-4) M85))))))))))))))) else R (-4) M44))))))))))))) else R (-2) M8) else R (-2) M2)
set_option maxHeartbeats 4000000 in
set_option maxRecDepth 100000 in
theorem n_X10_alike_0.{u, v} {α : Sort u} {β : Sort v} (h : α → β) (R : Int32 → Mem → α) (N : α) (n : Nat) (a0 : Nat) (x1 : Int32) (x2 : Int32) (M : Mem) : h (T_X10_alike_0 R N n a0 x1 x2 M) = T_X10_alike_0 (fun v M => h (R v M)) (h N) n a0 x1 x2 M := by
  simp only [T_X10_alike_0, nat_ite h, nat_gd h, nat_bnd h, nat_bnd2 h]
set_option maxHeartbeats 4000000 in
set_option maxRecDepth 100000 in
theorem w_X10_alike_0 {X : Nat × (Nat → Int32)} {al : Bool} {n : Nat} {Q : Option Value → Mem → Prop} {R : Int32 → Mem → Prop} (hR : ∀ v M, R v M → Q (some (.int v)) M) {a0 : Nat} {x1 : Int32} {x2 : Int32} {M : Mem} (h : T_X10_alike_0 R False n a0 x1 x2 M) : AW X (RX10, cX10_alike, 3, (some .int), false, al, n) 0 0 0 [(0, .ref a0), (1, .int x1), (2, .int x2)] [] M Q := by
  unfold T_X10_alike_0 at h
  refine a_iload_n dX10_alike_0 rfl rfl ?_
  obtain ⟨v1, M2, e3, h⟩ := bnd2_t h
  obtain ⟨n4, en5, e3⟩ := cal_t e3
  refine e_callS (As := [.int x1]) (st := []) false dX10_alike_1 mw_X10_noSlot (Or.inl ⟨rfl, ml_X10_151⟩) sm_X10_noSlot rfl (Nat.le_of_ble_eq_true rfl) en5 (s_X10_noSlot e3) ?_
  refine a_if_ne 14 dX10_alike_4 (by decide) (fun c6 => ?_) (fun c6 => ?_)
  · replace h := ite_f c6 h
    refine a_bipush (v := -2) dX10_alike_14 (by decide) ?_
    exact a_iret dX10_alike_16 rfl (hR _ _ h)
  · replace h := ite_t c6 h
    refine a_iload_n dX10_alike_7 rfl rfl ?_
    obtain ⟨v7, M8, e9, h⟩ := bnd2_t h
    obtain ⟨n10, en11, e9⟩ := cal_t e9
    refine e_callS (As := [.int x2]) (st := []) false dX10_alike_8 mw_X10_noSlot (Or.inl ⟨rfl, ml_X10_151⟩) sm_X10_noSlot rfl (Nat.le_of_ble_eq_true rfl) en11 (s_X10_noSlot e9) ?_
    refine a_if_eq 17 dX10_alike_11 (by decide) (fun c12 => ?_) (fun c12 => ?_)
    · replace h := ite_t c12 h
      refine a_aload_n dX10_alike_17 rfl rfl ?_
      obtain ⟨⟨ga13, gs14⟩, h⟩ := gd_t h
      obtain ⟨r15, e16, h⟩ := bnd_t h
      refine a_get (v := .ref r15) dX10_alike_18 fl_10_38 ga13 gs14 (gvR e16 rfl) ?_
      refine a_iload_n dX10_alike_21 rfl rfl ?_
      obtain ⟨⟨ga17, gn18, gs19, gi20⟩, h⟩ := gd_t h
      obtain ⟨r21, e22, h⟩ := bnd_t h
      refine a_aaload dX10_alike_22 ga17 gs19 gi20 e22 ?_
      obtain ⟨⟨ga23, gs24⟩, h⟩ := gd_t h
      refine a_getN (v := .int (M8.2.2.1 r21 2)) dX10_alike_23 fn_10_171 ga23 gs24 rfl ?_
      refine a_if_eq 41 dX10_alike_26 (by decide) (fun c25 => ?_) (fun c25 => ?_)
      · replace h := ite_t c25 h
        refine a_bipush (v := -5) dX10_alike_41 (by decide) ?_
        exact a_iret dX10_alike_43 rfl (hR _ _ h)
      · replace h := ite_f c25 h
        refine a_aload_n dX10_alike_29 rfl rfl ?_
        refine a_get (v := .ref r15) dX10_alike_30 fl_10_38 ga13 gs14 (gvR e16 rfl) ?_
        refine a_iload_n dX10_alike_33 rfl rfl ?_
        obtain ⟨⟨ga26, gn27, gs28, gi29⟩, h⟩ := gd_t h
        obtain ⟨r30, e31, h⟩ := bnd_t h
        refine a_aaload dX10_alike_34 ga26 gs28 gi29 e31 ?_
        obtain ⟨⟨ga32, gs33⟩, h⟩ := gd_t h
        refine a_getN (v := .int (M8.2.2.1 r30 2)) dX10_alike_35 fn_10_171 ga32 gs33 rfl ?_
        refine a_if_ne 44 dX10_alike_38 (by decide) (fun c34 => ?_) (fun c34 => ?_)
        · replace h := ite_f c34 h
          refine a_aload_n dX10_alike_44 rfl rfl ?_
          obtain ⟨r35, e36, h⟩ := bnd_t h
          refine a_get (v := .ref r35) dX10_alike_45 fl_10_61 ga13 gs14 (gvR e36 rfl) ?_
          refine a_aload_n dX10_alike_48 rfl rfl ?_
          refine a_get (v := .ref r15) dX10_alike_49 fl_10_38 ga13 gs14 (gvR e16 rfl) ?_
          refine a_iload_n dX10_alike_52 rfl rfl ?_
          obtain ⟨r37, e38, h⟩ := bnd_t h
          refine a_aaload dX10_alike_53 ga17 gs19 gi20 e38 ?_
          refine a_aload_n dX10_alike_54 rfl rfl ?_
          obtain ⟨r39, e40, h⟩ := bnd_t h
          refine a_get (v := .ref r39) dX10_alike_55 fl_10_99 ga13 gs14 (gvR e40 rfl) ?_
          obtain ⟨⟨ga41, gs42⟩, h⟩ := gd_t h
          obtain ⟨v43, M44, e45, h⟩ := bnd2_t h
          obtain ⟨n46, en47, e45⟩ := cal_t e45
          refine e_callV (As := [.ref r37, .ref r39]) (st := []) (a := r35) (ci := 7) false dX10_alike_58 mw_X7_reduceAll (Or.inl ⟨rfl, ml_X10_261⟩) im_X7_reduceAll se_X7_reduceAll (by decide) ga41 gs42 rfl (Nat.le_of_ble_eq_true rfl) en47 (s_X7_reduceAll e45) ?_
          refine a_if_ge 67 dX10_alike_61 (by decide) (fun c48 => ?_) (fun c48 => ?_)
          · replace h := ite_t c48 h
            refine a_aload_n dX10_alike_67 rfl rfl ?_
            obtain ⟨⟨ga49, gs50⟩, h⟩ := gd_t h
            obtain ⟨r51, e52, h⟩ := bnd_t h
            refine a_get (v := .ref r51) dX10_alike_68 fl_10_43 ga49 gs50 (gvR e52 rfl) ?_
            refine a_aload_n dX10_alike_71 rfl rfl ?_
            obtain ⟨r53, e54, h⟩ := bnd_t h
            refine a_get (v := .ref r53) dX10_alike_72 fl_10_61 ga49 gs50 (gvR e54 rfl) ?_
            obtain ⟨⟨ga55, gs56⟩, h⟩ := gd_t h
            obtain ⟨v57, M58, e59, h⟩ := bnd2_t h
            obtain ⟨n60, en61, e59⟩ := cal_t e59
            refine e_callV (As := []) (st := [.ref r51]) (a := r53) (ci := 7) false dX10_alike_75 mw_X7_reduced (Or.inl ⟨rfl, ml_X10_265⟩) im_X7_reduced se_X7_reduced (by decide) ga55 gs56 rfl (Nat.le_of_ble_eq_true rfl) en61 (s_X7_reduced e59) ?_
            obtain ⟨⟨ga62, gs63⟩, h⟩ := gd_t h
            obtain ⟨_, M64, e65, h⟩ := bnd2_t h
            obtain ⟨n66, en67, e65⟩ := cal_t e65
            refine e_callV (As := [.ref v57]) (st := []) (a := r51) (ci := 9) false dX10_alike_78 mw_X9_takeOver (Or.inl ⟨rfl, ml_X10_169⟩) im_X9_takeOver se_X9_takeOver (by decide) ga62 gs63 rfl (Nat.le_of_ble_eq_true rfl) en67 (s_X9_takeOver e65) ?_
            refine a_aload_n dX10_alike_81 rfl rfl ?_
            obtain ⟨⟨ga68, gs69⟩, h⟩ := gd_t h
            obtain ⟨r70, e71, h⟩ := bnd_t h
            refine a_get (v := .ref r70) dX10_alike_82 fl_10_61 ga68 gs69 (gvR e71 rfl) ?_
            refine a_aload_n dX10_alike_85 rfl rfl ?_
            obtain ⟨r72, e73, h⟩ := bnd_t h
            refine a_get (v := .ref r72) dX10_alike_86 fl_10_38 ga68 gs69 (gvR e73 rfl) ?_
            refine a_iload_n dX10_alike_89 rfl rfl ?_
            obtain ⟨⟨ga74, gn75, gs76, gi77⟩, h⟩ := gd_t h
            obtain ⟨r78, e79, h⟩ := bnd_t h
            refine a_aaload dX10_alike_90 ga74 gs76 gi77 e79 ?_
            refine a_aload_n dX10_alike_91 rfl rfl ?_
            obtain ⟨r80, e81, h⟩ := bnd_t h
            refine a_get (v := .ref r80) dX10_alike_92 fl_10_99 ga68 gs69 (gvR e81 rfl) ?_
            obtain ⟨⟨ga82, gs83⟩, h⟩ := gd_t h
            obtain ⟨v84, M85, e86, h⟩ := bnd2_t h
            obtain ⟨n87, en88, e86⟩ := cal_t e86
            refine e_callV (As := [.ref r78, .ref r80]) (st := []) (a := r70) (ci := 7) false dX10_alike_95 mw_X7_reduceAll (Or.inl ⟨rfl, ml_X10_261⟩) im_X7_reduceAll se_X7_reduceAll (by decide) ga82 gs83 rfl (Nat.le_of_ble_eq_true rfl) en88 (s_X7_reduceAll e86) ?_
            refine a_if_ge 104 dX10_alike_98 (by decide) (fun c89 => ?_) (fun c89 => ?_)
            · replace h := ite_t c89 h
              refine a_aload_n dX10_alike_104 rfl rfl ?_
              obtain ⟨⟨ga90, gs91⟩, h⟩ := gd_t h
              obtain ⟨r92, e93, h⟩ := bnd_t h
              refine a_get (v := .ref r92) dX10_alike_105 fl_10_43 ga90 gs91 (gvR e93 rfl) ?_
              refine a_aload_n dX10_alike_108 rfl rfl ?_
              obtain ⟨r94, e95, h⟩ := bnd_t h
              refine a_get (v := .ref r94) dX10_alike_109 fl_10_61 ga90 gs91 (gvR e95 rfl) ?_
              obtain ⟨⟨ga96, gs97⟩, h⟩ := gd_t h
              obtain ⟨v98, M99, e100, h⟩ := bnd2_t h
              obtain ⟨n101, en102, e100⟩ := cal_t e100
              refine e_callV (As := []) (st := [.ref r92]) (a := r94) (ci := 7) false dX10_alike_112 mw_X7_reduced (Or.inl ⟨rfl, ml_X10_265⟩) im_X7_reduced se_X7_reduced (by decide) ga96 gs97 rfl (Nat.le_of_ble_eq_true rfl) en102 (s_X7_reduced e100) ?_
              obtain ⟨⟨ga103, gs104⟩, h⟩ := gd_t h
              obtain ⟨v105, M106, e107, h⟩ := bnd2_t h
              obtain ⟨n108, en109, e107⟩ := cal_t e107
              refine e_callV (As := [.ref v98]) (st := []) (a := r92) (ci := 9) false dX10_alike_115 mw_X9_sameAs (Or.inl ⟨rfl, ml_X10_299⟩) im_X9_sameAs se_X9_sameAs (by decide) ga103 gs104 rfl (Nat.le_of_ble_eq_true rfl) en109 (s_X9_sameAs e107) ?_
              refine a_if_eq 125 dX10_alike_118 (by decide) (fun c110 => ?_) (fun c110 => ?_)
              · replace h := ite_t c110 h
                refine a_iconst (v := 0) dX10_alike_125 (by decide) ?_
                exact a_iret dX10_alike_126 rfl (hR _ _ h)
              · replace h := ite_f c110 h
                refine a_iconst (v := 1) dX10_alike_121 (by decide) ?_
                refine a_goto 126 dX10_alike_122 (by decide) ?_
                exact a_iret dX10_alike_126 rfl (hR _ _ h)
            · replace h := ite_f c89 h
              refine a_bipush (v := -4) dX10_alike_101 (by decide) ?_
              exact a_iret dX10_alike_103 rfl (hR _ _ h)
          · replace h := ite_f c48 h
            refine a_bipush (v := -4) dX10_alike_64 (by decide) ?_
            exact a_iret dX10_alike_66 rfl (hR _ _ h)
        · replace h := ite_t c34 h
          refine a_bipush (v := -5) dX10_alike_41 (by decide) ?_
          exact a_iret dX10_alike_43 rfl (hR _ _ h)
    · replace h := ite_f c12 h
      refine a_bipush (v := -2) dX10_alike_14 (by decide) ?_
      exact a_iret dX10_alike_16 rfl (hR _ _ h)
noncomputable def b_X10_alike (n : Nat) (a0 : Nat) (x1 : Int32) (x2 : Int32) (M : Mem) : Option (Int32 × Mem) := T_X10_alike_0 (fun v M => some (v, M)) none n a0 x1 x2 M
set_option maxHeartbeats 4000000 in
set_option maxRecDepth 100000 in
theorem sb_X10_alike {X : Nat × (Nat → Int32)} {al : Bool} {n : Nat} {a0 : Nat} {x1 : Int32} {x2 : Int32} {M : Mem} {v : Int32} {M1 : Mem} (h : b_X10_alike n a0 x1 x2 M = some (v, M1)) : AE yX10_alike cX10_alike 3 (some .int) al n X [.ref a0, .int x1, .int x2] M (some (.int v)) M1 := by
  refine AM.of false (by decide +kernel) (by intro h; cases h) (Nat.le_of_ble_eq_true rfl) ?_
  have h2 : T_X10_alike_0 (fun v2 M2 => some (v2, M2) = some (v, M1)) (none = some (v, M1)) n a0 x1 x2 M := (n_X10_alike_0 (fun o => o = some (v, M1)) (fun v M => some (v, M)) none n a0 x1 x2 M).mp h
  have h3 : ((none : Option (Int32 × Mem)) = some (v, M1)) = False := eq_false (by intro q; cases q)
  rw [h3] at h2
  exact w_X10_alike_0 (fun v2 M2 h => by cases h; exact ⟨rfl, rfl⟩) h2

noncomputable abbrev f_X10_alike := b_X10_alike
theorem s_X10_alike {X : Nat × (Nat → Int32)} {al : Bool} {n : Nat} {a0 : Nat} {x1 : Int32} {x2 : Int32} {M : Mem} {v : Int32} {M1 : Mem} (h : f_X10_alike n a0 x1 x2 M = some (v, M1)) : AE yX10_alike cX10_alike 3 (some .int) al n X [.ref a0, .int x1, .int x2] M (some (.int v)) M1 := sb_X10_alike h
