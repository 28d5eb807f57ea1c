/-! METHODS AS FUNCTIONS, written by wip/gen/shallow.py -/
def ix_X4_addLine (c : Nat) : List Nat := if c = 0 then [0, 1, 2, 3] else if c = 52 then [0, 4, 5] else []
def PW_X4_addLine (X : Nat × (Nat → Int32)) (al : Bool) (n : Nat) (Q : Option Value → Mem → Prop) (c : Nat) (l : List Value) (M : Mem) : Prop := AW X (RX4, cX4_addLine, 6, (some .int), false, al, n) 0 0 c (List.zip (ix_X4_addLine c) l) (l.drop (ix_X4_addLine c).length) M Q
set_option maxHeartbeats 4000000 in
set_option maxRecDepth 100000 in
noncomputable def T_X4_addLine_0.{u} {α : Sort u} (J : Nat → List Value → Mem → α) (R : Int32 → Mem → α) (N : α) (n : Nat) (a0 : Nat) (x1 : Int32) (x2 : Int32) (x3 : Int32) (M : Mem) : α := gd (fO M a0 4) N (if (M.2.2.1 a0 7) < 0 then R (-1) M else if (M.2.2.1 a0 7) < 406 then bnd (M.2.2.2.2 a0 1) N (fun r5 => gd (fA M r5 1 (M.2.2.1 a0 7)) N (bnd (M.2.2.2.2 a0 2) N (fun r11 => gd (fA M r11 1 (M.2.2.1 a0 7)) N (bnd (M.2.2.2.2 a0 3) N (fun r17 => gd (fA M r17 1 (M.2.2.1 a0 7)) N (J 52 [.ref a0, .int (M.2.2.1 a0 7), .int 0] (wI (wI (wI M r5 ((M.2.2.1 a0 7).toNatClampNeg) x1) r11 ((M.2.2.1 a0 7).toNatClampNeg) x2) r17 ((M.2.2.1 a0 7).toNatClampNeg) x3))))))) else R (-1) M)
set_option maxHeartbeats 4000000 in
set_option maxRecDepth 100000 in
theorem n_X4_addLine_0.{u, v} {α : Sort u} {β : Sort v} (h : α → β) (J : Nat → List Value → Mem → α) (R : Int32 → Mem → α) (N : α) (n : Nat) (a0 : Nat) (x1 : Int32) (x2 : Int32) (x3 : Int32) (M : Mem) : h (T_X4_addLine_0 J R N n a0 x1 x2 x3 M) = T_X4_addLine_0 (fun c l M => h (J c l M)) (fun v M => h (R v M)) (h N) n a0 x1 x2 x3 M := by
  simp only [T_X4_addLine_0, nat_ite h, nat_gd h, nat_bnd h, nat_bnd2 h]
set_option maxHeartbeats 4000000 in
set_option maxRecDepth 100000 in
theorem w_X4_addLine_0 {X : Nat × (Nat → Int32)} {al : Bool} {n : Nat} {Q : Option Value → Mem → Prop} {J : Nat → List Value → Mem → Prop} (hJ : ∀ c l M, J c l M → PW_X4_addLine X al n Q c l M) {R : Int32 → Mem → Prop} (hR : ∀ v M, R v M → Q (some (.int v)) M) {a0 : Nat} {x1 : Int32} {x2 : Int32} {x3 : Int32} {M : Mem} (h : T_X4_addLine_0 J R False n a0 x1 x2 x3 M) : AW X (RX4, cX4_addLine, 6, (some .int), false, al, n) 0 0 0 [(0, .ref a0), (1, .int x1), (2, .int x2), (3, .int x3)] [] M Q := by
  unfold T_X4_addLine_0 at h
  refine a_aload_n dX4_addLine_0 rfl rfl ?_
  obtain ⟨⟨ga1, gs2⟩, h⟩ := gd_t h
  refine a_get (v := .int (M.2.2.1 a0 7)) dX4_addLine_1 fl_4_38 ga1 gs2 rfl ?_
  refine a_if_lt 17 dX4_addLine_4 (by decide) (fun c3 => ?_) (fun c3 => ?_)
  · replace h := ite_t c3 h
    refine a_iconst (v := -1) dX4_addLine_17 (by decide) ?_
    exact a_iret dX4_addLine_18 rfl (hR _ _ h)
  · replace h := ite_f c3 h
    refine a_aload_n dX4_addLine_7 rfl rfl ?_
    refine a_get (v := .int (M.2.2.1 a0 7)) dX4_addLine_8 fl_4_38 ga1 gs2 rfl ?_
    refine a_sipush (v := 406) dX4_addLine_11 (by decide) ?_
    refine a_icmp_lt 19 dX4_addLine_14 (by decide) (fun c4 => ?_) (fun c4 => ?_)
    · replace h := ite_t c4 h
      refine a_aload_n dX4_addLine_19 rfl rfl ?_
      refine a_get (v := .int (M.2.2.1 a0 7)) dX4_addLine_20 fl_4_38 ga1 gs2 rfl ?_
      refine a_istore dX4_addLine_23 (Nat.le_of_ble_eq_true rfl) (lv2 := [(4, .int (M.2.2.1 a0 7)), (0, .ref a0), (1, .int x1), (2, .int x2), (3, .int x3)]) rfl ?_
      refine a_aload_n dX4_addLine_25 rfl rfl ?_
      obtain ⟨r5, e6, h⟩ := bnd_t h
      refine a_get (v := .ref r5) dX4_addLine_26 fl_4_11 ga1 gs2 (gvR e6 rfl) ?_
      refine a_iload dX4_addLine_29 rfl ?_
      refine a_iload_n dX4_addLine_31 rfl rfl ?_
      obtain ⟨⟨ga7, gn8, gs9, gi10⟩, h⟩ := gd_t h
      refine a_iastore dX4_addLine_32 ga7 gs9 gi10 ?_
      refine a_aload_n dX4_addLine_33 rfl rfl ?_
      obtain ⟨r11, e12, h⟩ := bnd_t h
      refine a_get (v := .ref r11) dX4_addLine_34 fl_4_15 ga1 gs2 (gvR e12 rfl) ?_
      refine a_iload dX4_addLine_37 rfl ?_
      refine a_iload_n dX4_addLine_39 rfl rfl ?_
      obtain ⟨⟨ga13, gn14, gs15, gi16⟩, h⟩ := gd_t h
      refine a_iastore dX4_addLine_40 ga13 gs15 gi16 ?_
      refine a_aload_n dX4_addLine_41 rfl rfl ?_
      obtain ⟨r17, e18, h⟩ := bnd_t h
      refine a_get (v := .ref r17) dX4_addLine_42 fl_4_18 ga1 gs2 (gvR e18 rfl) ?_
      refine a_iload dX4_addLine_45 rfl ?_
      refine a_iload_n dX4_addLine_47 rfl rfl ?_
      obtain ⟨⟨ga19, gn20, gs21, gi22⟩, h⟩ := gd_t h
      refine a_iastore dX4_addLine_48 ga19 gs21 gi22 ?_
      refine a_iconst (v := 0) dX4_addLine_49 (by decide) ?_
      refine a_istore dX4_addLine_50 (Nat.le_of_ble_eq_true rfl) (lv2 := [(5, .int 0), (4, .int (M.2.2.1 a0 7)), (0, .ref a0), (1, .int x1), (2, .int x2), (3, .int x3)]) rfl ?_
      exact a_lv (lv2 := [(0, .ref a0), (4, .int (M.2.2.1 a0 7)), (5, .int 0)]) (fa_cons rfl (fa_cons rfl (fa_cons rfl fa_nil))) (hJ _ _ _ h)
    · replace h := ite_f c4 h
      refine a_iconst (v := -1) dX4_addLine_17 (by decide) ?_
      exact a_iret dX4_addLine_18 rfl (hR _ _ h)
set_option maxHeartbeats 4000000 in
set_option maxRecDepth 100000 in
noncomputable def T_X4_addLine_52.{u} {α : Sort u} (J : Nat → List Value → Mem → α) (R : Int32 → Mem → α) (N : α) (n : Nat) (a0 : Nat) (x4 : Int32) (x5 : Int32) (M : Mem) : α := if 3 ≤ x5 then gd (fO M a0 4) N (R x4 (wI M a0 7 ((M.2.2.1 a0 7) + 1))) else gd (fO M a0 4) N (bnd (M.2.2.2.2 a0 4) N (fun r6 => gd (fA M r6 1 ((x4 * 3) + x5)) N (J 52 [.ref a0, .int x4, .int (x5 + 1)] (wI M r6 (((x4 * 3) + x5).toNatClampNeg) (-1)))))
set_option maxHeartbeats 4000000 in
set_option maxRecDepth 100000 in
theorem n_X4_addLine_52.{u, v} {α : Sort u} {β : Sort v} (h : α → β) (J : Nat → List Value → Mem → α) (R : Int32 → Mem → α) (N : α) (n : Nat) (a0 : Nat) (x4 : Int32) (x5 : Int32) (M : Mem) : h (T_X4_addLine_52 J R N n a0 x4 x5 M) = T_X4_addLine_52 (fun c l M => h (J c l M)) (fun v M => h (R v M)) (h N) n a0 x4 x5 M := by
  simp only [T_X4_addLine_52, nat_ite h, nat_gd h, nat_bnd h, nat_bnd2 h]
set_option maxHeartbeats 4000000 in
set_option maxRecDepth 100000 in
theorem w_X4_addLine_52 {X : Nat × (Nat → Int32)} {al : Bool} {n : Nat} {Q : Option Value → Mem → Prop} {J : Nat → List Value → Mem → Prop} (hJ : ∀ c l M, J c l M → PW_X4_addLine X al n Q c l M) {R : Int32 → Mem → Prop} (hR : ∀ v M, R v M → Q (some (.int v)) M) {a0 : Nat} {x4 : Int32} {x5 : Int32} {M : Mem} (h : T_X4_addLine_52 J R False n a0 x4 x5 M) : AW X (RX4, cX4_addLine, 6, (some .int), false, al, n) 0 0 52 [(0, .ref a0), (4, .int x4), (5, .int x5)] [] M Q := by
  unfold T_X4_addLine_52 at h
  refine a_iload dX4_addLine_52 rfl ?_
  refine a_iconst (v := 3) dX4_addLine_54 (by decide) ?_
  refine a_icmp_ge 77 dX4_addLine_55 (by decide) (fun c1 => ?_) (fun c1 => ?_)
  · replace h := ite_t c1 h
    refine a_aload_n dX4_addLine_77 rfl rfl ?_
    refine a_dup dX4_addLine_78 rfl ?_
    obtain ⟨⟨ga2, gs3⟩, h⟩ := gd_t h
    refine a_get (v := .int (M.2.2.1 a0 7)) dX4_addLine_79 fl_4_38 ga2 gs3 rfl ?_
    refine a_iconst (v := 1) dX4_addLine_82 (by decide) ?_
    refine a_iadd dX4_addLine_83 ?_
    refine a_putI dX4_addLine_84 (Or.inl ⟨fl_4_38, Or.inl rfl⟩) rfl ga2 gs3 rfl rfl ?_
    refine a_iload dX4_addLine_87 rfl ?_
    exact a_iret dX4_addLine_89 rfl (hR _ _ h)
  · replace h := ite_f c1 h
    refine a_aload_n dX4_addLine_58 rfl rfl ?_
    obtain ⟨⟨ga4, gs5⟩, h⟩ := gd_t h
    obtain ⟨r6, e7, h⟩ := bnd_t h
    refine a_get (v := .ref r6) dX4_addLine_59 fl_4_21 ga4 gs5 (gvR e7 rfl) ?_
    refine a_iload dX4_addLine_62 rfl ?_
    refine a_iconst (v := 3) dX4_addLine_64 (by decide) ?_
    refine a_imul dX4_addLine_65 ?_
    refine a_iload dX4_addLine_66 rfl ?_
    refine a_iadd dX4_addLine_68 ?_
    refine a_iconst (v := -1) dX4_addLine_69 (by decide) ?_
    obtain ⟨⟨ga8, gn9, gs10, gi11⟩, h⟩ := gd_t h
    refine a_iastore dX4_addLine_70 ga8 gs10 gi11 ?_
    refine a_iinc (v := (x5 + 1)) dX4_addLine_71 rfl (by first | rfl | decide) (Nat.le_of_ble_eq_true rfl) (lv2 := [(5, .int (x5 + 1)), (0, .ref a0), (4, .int x4)]) rfl ?_
    refine a_goto 52 dX4_addLine_74 (by decide) ?_
    exact a_lv (lv2 := [(0, .ref a0), (4, .int x4), (5, .int (x5 + 1))]) (fa_cons rfl (fa_cons rfl (fa_cons rfl fa_nil))) (hJ _ _ _ h)
set_option maxHeartbeats 4000000 in
set_option maxRecDepth 100000 in
noncomputable def st_X4_addLine (n : Nat) (s : Sg) : Option (Sg ⊕ (Int32 × Mem)) := if s.1 = 0 then vR s.2.1 none (fun a0 t => vI t none (fun x1 t => vI t none (fun x2 t => vI t none (fun x3 t => vE t none (T_X4_addLine_0 (fun c l M => some (.inl (c, l, M))) (fun v M => some (.inr (v, M))) none n a0 x1 x2 x3 s.2.2))))) else if s.1 = 52 then vR s.2.1 none (fun a0 t => vI t none (fun x4 t => vI t none (fun x5 t => vE t none (T_X4_addLine_52 (fun c l M => some (.inl (c, l, M))) (fun v M => some (.inr (v, M))) none n a0 x4 x5 s.2.2)))) else none
noncomputable abbrev g_X4_addLine_0 (n : Nat) (a0 : Nat) (x1 : Int32) (x2 : Int32) (x3 : Int32) (M : Mem) : Option (Int32 × Mem) := lp (st_X4_addLine n) (0, [.ref a0, .int x1, .int x2, .int x3], M)
set_option maxHeartbeats 4000000 in
set_option maxRecDepth 100000 in
theorem ge_X4_addLine_0 (n : Nat) (a0 : Nat) (x1 : Int32) (x2 : Int32) (x3 : Int32) (M : Mem) : g_X4_addLine_0 n a0 x1 x2 x3 M = T_X4_addLine_0 (fun c l M => lp (st_X4_addLine n) (c, l, M)) (fun v M => some (v, M)) none n a0 x1 x2 x3 M := (lp_eq _ _).trans (n_X4_addLine_0 (lpK (st_X4_addLine n)) (fun c l M => some (.inl (c, l, M))) (fun v M => some (.inr (v, M))) none n a0 x1 x2 x3 M)
noncomputable abbrev g_X4_addLine_52 (n : Nat) (a0 : Nat) (x4 : Int32) (x5 : Int32) (M : Mem) : Option (Int32 × Mem) := lp (st_X4_addLine n) (52, [.ref a0, .int x4, .int x5], M)
set_option maxHeartbeats 4000000 in
set_option maxRecDepth 100000 in
theorem ge_X4_addLine_52 (n : Nat) (a0 : Nat) (x4 : Int32) (x5 : Int32) (M : Mem) : g_X4_addLine_52 n a0 x4 x5 M = T_X4_addLine_52 (fun c l M => lp (st_X4_addLine n) (c, l, M)) (fun v M => some (v, M)) none n a0 x4 x5 M := (lp_eq _ _).trans (n_X4_addLine_52 (lpK (st_X4_addLine n)) (fun c l M => some (.inl (c, l, M))) (fun v M => some (.inr (v, M))) none n a0 x4 x5 M)
noncomputable def b_X4_addLine (n : Nat) (a0 : Nat) (x1 : Int32) (x2 : Int32) (x3 : Int32) (M : Mem) : Option (Int32 × Mem) := g_X4_addLine_0 n a0 x1 x2 x3 M
set_option maxHeartbeats 4000000 in
set_option maxRecDepth 100000 in
theorem sb_X4_addLine {X : Nat × (Nat → Int32)} {al : Bool} {n : Nat} {a0 : Nat} {x1 : Int32} {x2 : Int32} {x3 : Int32} {M : Mem} {v : Int32} {M1 : Mem} (h : b_X4_addLine n a0 x1 x2 x3 M = some (v, M1)) : AE yX4_addLine cX4_addLine 6 (some .int) al n X [.ref a0, .int x1, .int x2, .int x3] M (some (.int v)) M1 := by
  refine AM.of false (by decide +kernel) (by intro h; cases h) (Nat.le_of_ble_eq_true rfl) ?_
  refine lp_snd (P := fun s r => PW_X4_addLine X al n (fun v M2 => v = (some (.int r.1)) ∧ M2 = r.2) s.1 s.2.1 s.2.2) ?_ h
  clear h
  rintro ⟨c, l, M⟩ r h
  unfold st_X4_addLine at h
  rcases ite_p h with ⟨e, h⟩ | ⟨e, h⟩
  · replace e : c = 0 := e
    subst e
    obtain ⟨a0, tt0, e, h⟩ := vR_p id h
    replace e : l = _ := e
    subst e
    obtain ⟨x1, tt1, e, h⟩ := vI_p id h
    replace e : tt0 = _ := e
    subst e
    obtain ⟨x2, tt2, e, h⟩ := vI_p id h
    replace e : tt1 = _ := e
    subst e
    obtain ⟨x3, tt3, e, h⟩ := vI_p id h
    replace e : tt2 = _ := e
    subst e
    obtain ⟨e, h⟩ := vE_p id h
    replace e : tt3 = [] := e
    subst e
    exact w_X4_addLine_0 (J := fun c l M => PW_X4_addLine X al n (fun v M2 => v = (some (.int r.1)) ∧ M2 = r.2) c l M) (R := fun v M => (v, M) = r) (fun _ _ _ h => h) (fun v M h => by cases h; exact ⟨rfl, rfl⟩) ((n_X4_addLine_0 (lpP (fun (s : Sg) (r : Int32 × Mem) => PW_X4_addLine X al n (fun v M2 => v = (some (.int r.1)) ∧ M2 = r.2) s.1 s.2.1 s.2.2) r) (fun c l M => some (.inl (c, l, M))) (fun v M => some (.inr (v, M))) none n a0 x1 x2 x3 M).mp h)
  rcases ite_p h with ⟨e, h⟩ | ⟨e, h⟩
  · replace e : c = 52 := e
    subst e
    obtain ⟨a0, tt0, e, h⟩ := vR_p id h
    replace e : l = _ := e
    subst e
    obtain ⟨x4, tt1, e, h⟩ := vI_p id h
    replace e : tt0 = _ := e
    subst e
    obtain ⟨x5, tt2, e, h⟩ := vI_p id h
    replace e : tt1 = _ := e
    subst e
    obtain ⟨e, h⟩ := vE_p id h
    replace e : tt2 = [] := e
    subst e
    exact w_X4_addLine_52 (J := fun c l M => PW_X4_addLine X al n (fun v M2 => v = (some (.int r.1)) ∧ M2 = r.2) c l M) (R := fun v M => (v, M) = r) (fun _ _ _ h => h) (fun v M h => by cases h; exact ⟨rfl, rfl⟩) ((n_X4_addLine_52 (lpP (fun (s : Sg) (r : Int32 × Mem) => PW_X4_addLine X al n (fun v M2 => v = (some (.int r.1)) ∧ M2 = r.2) s.1 s.2.1 s.2.2) r) (fun c l M => some (.inl (c, l, M))) (fun v M => some (.inr (v, M))) none n a0 x4 x5 M).mp h)
  · exact h.elim

noncomputable abbrev f_X4_addLine := b_X4_addLine
theorem s_X4_addLine {X : Nat × (Nat → Int32)} {al : Bool} {n : Nat} {a0 : Nat} {x1 : Int32} {x2 : Int32} {x3 : Int32} {M : Mem} {v : Int32} {M1 : Mem} (h : f_X4_addLine n a0 x1 x2 x3 M = some (v, M1)) : AE yX4_addLine cX4_addLine 6 (some .int) al n X [.ref a0, .int x1, .int x2, .int x3] M (some (.int v)) M1 := sb_X4_addLine h
set_option maxHeartbeats 4000000 in
set_option maxRecDepth 100000 in
noncomputable def T_X4_takeOn_0.{u} {α : Sort u} (R : Unit → Mem → α) (N : α) (n : Nat) (a0 : Nat) (a1 : Nat) (x2 : Int32) (M : Mem) : α := gd (fO M a1 3) N (bnd2 (cal n (fun n => f_X3_depthOf n a1 x2 M)) N (fun v3 M4 => gd (fO M4 a1 3) N (bnd2 (cal n (fun n => f_X3_takenOn n a1 x2 M4)) N (fun v10 M11 => gd (fO M11 a0 4) N (bnd2 (cal n (fun n => f_X4_addLine n a0 1 v10 v3 M11)) N (fun v17 M18 => if v3 ≤ 0 then R () M18 else if 200 < v3 then R () M18 else gd (fO M18 a0 4) N (bnd (M18.2.2.2.2 a0 6) N (fun r26 => gd (fA M18 r26 1 (v3 - 1)) N (R () (wI M18 r26 ((v3 - 1).toNatClampNeg) v17))))))))))
set_option maxHeartbeats 4000000 in
set_option maxRecDepth 100000 in
theorem n_X4_takeOn_0.{u, v} {α : Sort u} {β : Sort v} (h : α → β) (R : Unit → Mem → α) (N : α) (n : Nat) (a0 : Nat) (a1 : Nat) (x2 : Int32) (M : Mem) : h (T_X4_takeOn_0 R N n a0 a1 x2 M) = T_X4_takeOn_0 (fun v M => h (R v M)) (h N) n a0 a1 x2 M := by
  simp only [T_X4_takeOn_0, nat_ite h, nat_gd h, nat_bnd h, nat_bnd2 h]
set_option maxHeartbeats 4000000 in
set_option maxRecDepth 100000 in
theorem w_X4_takeOn_0 {X : Nat × (Nat → Int32)} {al : Bool} {n : Nat} {Q : Option Value → Mem → Prop} {R : Unit → Mem → Prop} (hR : ∀ v M, R v M → Q none M) {a0 : Nat} {a1 : Nat} {x2 : Int32} {M : Mem} (h : T_X4_takeOn_0 R False n a0 a1 x2 M) : AW X (RX4, cX4_takeOn, 5, none, false, al, n) 0 0 0 [(0, .ref a0), (1, .ref a1), (2, .int x2)] [] M Q := by
  unfold T_X4_takeOn_0 at h
  refine a_aload_n dX4_takeOn_0 rfl rfl ?_
  refine a_iload_n dX4_takeOn_1 rfl rfl ?_
  obtain ⟨⟨ga1, gs2⟩, h⟩ := gd_t h
  obtain ⟨v3, M4, e5, h⟩ := bnd2_t h
  obtain ⟨n6, en7, e5⟩ := cal_t e5
  refine e_callV (As := [.int x2]) (st := []) (a := a1) (ci := 3) false dX4_takeOn_2 mw_X3_depthOf (Or.inl ⟨rfl, ml_X4_68⟩) im_X3_depthOf se_X3_depthOf (by decide) ga1 gs2 rfl (Nat.le_of_ble_eq_true rfl) en7 (s_X3_depthOf e5) ?_
  refine a_istore_n dX4_takeOn_5 rfl (Nat.le_of_ble_eq_true rfl) (lv2 := [(3, .int v3), (0, .ref a0), (1, .ref a1), (2, .int x2)]) rfl ?_
  refine a_aload_n dX4_takeOn_6 rfl rfl ?_
  refine a_iconst (v := 1) dX4_takeOn_7 (by decide) ?_
  refine a_aload_n dX4_takeOn_8 rfl rfl ?_
  refine a_iload_n dX4_takeOn_9 rfl rfl ?_
  obtain ⟨⟨ga8, gs9⟩, h⟩ := gd_t h
  obtain ⟨v10, M11, e12, h⟩ := bnd2_t h
  obtain ⟨n13, en14, e12⟩ := cal_t e12
  refine e_callV (As := [.int x2]) (st := [.int 1, .ref a0]) (a := a1) (ci := 3) false dX4_takeOn_10 mw_X3_takenOn (Or.inl ⟨rfl, ml_X4_71⟩) im_X3_takenOn se_X3_takenOn (by decide) ga8 gs9 rfl (Nat.le_of_ble_eq_true rfl) en14 (s_X3_takenOn e12) ?_
  refine a_iload_n dX4_takeOn_13 rfl rfl ?_
  obtain ⟨⟨ga15, gs16⟩, h⟩ := gd_t h
  obtain ⟨v17, M18, e19, h⟩ := bnd2_t h
  obtain ⟨n20, en21, e19⟩ := cal_t e19
  refine e_callV (As := [.int 1, .int v10, .int v3]) (st := []) (a := a0) (ci := 4) false dX4_takeOn_14 mw_X4_addLine (Or.inl ⟨rfl, ml_X4_49⟩) im_X4_addLine se_X4_addLine (by decide) ga15 gs16 rfl (Nat.le_of_ble_eq_true rfl) en21 (s_X4_addLine e19) ?_
  refine a_istore dX4_takeOn_17 (Nat.le_of_ble_eq_true rfl) (lv2 := [(4, .int v17), (3, .int v3), (0, .ref a0), (1, .ref a1), (2, .int x2)]) rfl ?_
  refine a_iload_n dX4_takeOn_19 rfl rfl ?_
  refine a_if_le 40 dX4_takeOn_20 (by decide) (fun c22 => ?_) (fun c22 => ?_)
  · replace h := ite_t c22 h
    exact a_vret dX4_takeOn_40 rfl (hR _ _ h)
  · replace h := ite_f c22 h
    refine a_iload_n dX4_takeOn_23 rfl rfl ?_
    refine a_sipush (v := 200) dX4_takeOn_24 (by decide) ?_
    refine a_icmp_gt 40 dX4_takeOn_27 (by decide) (fun c23 => ?_) (fun c23 => ?_)
    · replace h := ite_t c23 h
      exact a_vret dX4_takeOn_40 rfl (hR _ _ h)
    · replace h := ite_f c23 h
      refine a_aload_n dX4_takeOn_30 rfl rfl ?_
      obtain ⟨⟨ga24, gs25⟩, h⟩ := gd_t h
      obtain ⟨r26, e27, h⟩ := bnd_t h
      refine a_get (v := .ref r26) dX4_takeOn_31 fl_4_27 ga24 gs25 (gvR e27 rfl) ?_
      refine a_iload_n dX4_takeOn_34 rfl rfl ?_
      refine a_iconst (v := 1) dX4_takeOn_35 (by decide) ?_
      refine a_isub dX4_takeOn_36 ?_
      refine a_iload dX4_takeOn_37 rfl ?_
      obtain ⟨⟨ga28, gn29, gs30, gi31⟩, h⟩ := gd_t h
      refine a_iastore dX4_takeOn_39 ga28 gs30 gi31 ?_
      exact a_vret dX4_takeOn_40 rfl (hR _ _ h)
noncomputable def b_X4_takeOn (n : Nat) (a0 : Nat) (a1 : Nat) (x2 : Int32) (M : Mem) : Option (Unit × Mem) := T_X4_takeOn_0 (fun v M => some (v, M)) none n a0 a1 x2 M
set_option maxHeartbeats 4000000 in
set_option maxRecDepth 100000 in
theorem sb_X4_takeOn {X : Nat × (Nat → Int32)} {al : Bool} {n : Nat} {a0 : Nat} {a1 : Nat} {x2 : Int32} {M : Mem} {v : Unit} {M1 : Mem} (h : b_X4_takeOn n a0 a1 x2 M = some (v, M1)) : AE yX4_takeOn cX4_takeOn 5 none al n X [.ref a0, .ref a1, .int x2] M none M1 := by
  refine AM.of false (by decide +kernel) (by intro h; cases h) (Nat.le_of_ble_eq_true rfl) ?_
  have h2 : T_X4_takeOn_0 (fun v2 M2 => some (v2, M2) = some (v, M1)) (none = some (v, M1)) n a0 a1 x2 M := (n_X4_takeOn_0 (fun o => o = some (v, M1)) (fun v M => some (v, M)) none n a0 a1 x2 M).mp h
  have h3 : ((none : Option (Unit × Mem)) = some (v, M1)) = False := eq_false (by intro q; cases q)
  rw [h3] at h2
  exact w_X4_takeOn_0 (fun v2 M2 h => by cases h; exact ⟨rfl, rfl⟩) h2

noncomputable abbrev f_X4_takeOn := b_X4_takeOn
theorem s_X4_takeOn {X : Nat × (Nat → Int32)} {al : Bool} {n : Nat} {a0 : Nat} {a1 : Nat} {x2 : Int32} {M : Mem} {v : Unit} {M1 : Mem} (h : f_X4_takeOn n a0 a1 x2 M = some (v, M1)) : AE yX4_takeOn cX4_takeOn 5 none al n X [.ref a0, .ref a1, .int x2] M none M1 := sb_X4_takeOn h
set_option maxHeartbeats 4000000 in
set_option maxRecDepth 100000 in
noncomputable def T_X4_lineOfName_0.{u} {α : Sort u} (R : Int32 → Mem → α) (N : α) (n : Nat) (a0 : Nat) (x1 : Int32) (M : Mem) : α := if 0 ≤ x1 then gd (fO M a0 4) N (bnd (M.2.2.2.2 a0 6) N (fun r4 => bnd2 (cal n (fun n => f_X10_at n r4 x1 M)) N (fun v6 M7 => R v6 M7))) else R ((-1) - x1) M
set_option maxHeartbeats 4000000 in
set_option maxRecDepth 100000 in
theorem n_X4_lineOfName_0.{u, v} {α : Sort u} {β : Sort v} (h : α → β) (R : Int32 → Mem → α) (N : α) (n : Nat) (a0 : Nat) (x1 : Int32) (M : Mem) : h (T_X4_lineOfName_0 R N n a0 x1 M) = T_X4_lineOfName_0 (fun v M => h (R v M)) (h N) n a0 x1 M := by
  simp only [T_X4_lineOfName_0, nat_ite h, nat_gd h, nat_bnd h, nat_bnd2 h]
set_option maxHeartbeats 4000000 in
set_option maxRecDepth 100000 in
theorem w_X4_lineOfName_0 {X : Nat × (Nat → Int32)} {al : Bool} {n : Nat} {Q : Option Value → Mem → Prop} {R : Int32 → Mem → Prop} (hR : ∀ v M, R v M → Q (some (.int v)) M) {a0 : Nat} {x1 : Int32} {M : Mem} (h : T_X4_lineOfName_0 R False n a0 x1 M) : AW X (RX4, cX4_lineOfName, 2, (some .int), false, al, n) 0 0 0 [(0, .ref a0), (1, .int x1)] [] M Q := by
  unfold T_X4_lineOfName_0 at h
  refine a_iload_n dX4_lineOfName_0 rfl rfl ?_
  refine a_if_ge 10 dX4_lineOfName_1 (by decide) (fun c1 => ?_) (fun c1 => ?_)
  · replace h := ite_t c1 h
    refine a_aload_n dX4_lineOfName_10 rfl rfl ?_
    obtain ⟨⟨ga2, gs3⟩, h⟩ := gd_t h
    obtain ⟨r4, e5, h⟩ := bnd_t h
    refine a_get (v := .ref r4) dX4_lineOfName_11 fl_4_27 ga2 gs3 (gvR e5 rfl) ?_
    refine a_iload_n dX4_lineOfName_14 rfl rfl ?_
    obtain ⟨v6, M7, e8, h⟩ := bnd2_t h
    obtain ⟨n9, en10, e8⟩ := cal_t e8
    refine e_callS (As := [.ref r4, .int x1]) (st := []) true dX4_lineOfName_15 mw_X10_at (Or.inr ⟨rfl, mn_X4_34⟩) sm_X10_at rfl (Nat.le_of_ble_eq_true rfl) en10 (s_X10_at e8) ?_
    exact a_iret dX4_lineOfName_18 rfl (hR _ _ h)
  · replace h := ite_f c1 h
    refine a_iconst (v := -1) dX4_lineOfName_4 (by decide) ?_
    refine a_iload_n dX4_lineOfName_5 rfl rfl ?_
    refine a_isub dX4_lineOfName_6 ?_
    refine a_goto 18 dX4_lineOfName_7 (by decide) ?_
    exact a_iret dX4_lineOfName_18 rfl (hR _ _ h)
noncomputable def b_X4_lineOfName (n : Nat) (a0 : Nat) (x1 : Int32) (M : Mem) : Option (Int32 × Mem) := T_X4_lineOfName_0 (fun v M => some (v, M)) none n a0 x1 M
set_option maxHeartbeats 4000000 in
set_option maxRecDepth 100000 in
theorem sb_X4_lineOfName {X : Nat × (Nat → Int32)} {al : Bool} {n : Nat} {a0 : Nat} {x1 : Int32} {M : Mem} {v : Int32} {M1 : Mem} (h : b_X4_lineOfName n a0 x1 M = some (v, M1)) : AE yX4_lineOfName cX4_lineOfName 2 (some .int) al n X [.ref a0, .int x1] M (some (.int v)) M1 := by
  refine AM.of false (by decide +kernel) (by intro h; cases h) (Nat.le_of_ble_eq_true rfl) ?_
  have h2 : T_X4_lineOfName_0 (fun v2 M2 => some (v2, M2) = some (v, M1)) (none = some (v, M1)) n a0 x1 M := (n_X4_lineOfName_0 (fun o => o = some (v, M1)) (fun v M => some (v, M)) none n a0 x1 M).mp h
  have h3 : ((none : Option (Int32 × Mem)) = some (v, M1)) = False := eq_false (by intro q; cases q)
  rw [h3] at h2
  exact w_X4_lineOfName_0 (fun v2 M2 h => by cases h; exact ⟨rfl, rfl⟩) h2

noncomputable abbrev f_X4_lineOfName := b_X4_lineOfName
theorem s_X4_lineOfName {X : Nat × (Nat → Int32)} {al : Bool} {n : Nat} {a0 : Nat} {x1 : Int32} {M : Mem} {v : Int32} {M1 : Mem} (h : f_X4_lineOfName n a0 x1 M = some (v, M1)) : AE yX4_lineOfName cX4_lineOfName 2 (some .int) al n X [.ref a0, .int x1] M (some (.int v)) M1 := sb_X4_lineOfName h
set_option maxHeartbeats 4000000 in
set_option maxRecDepth 100000 in
noncomputable def T_X4_setFrom_0.{u} {α : Sort u} (R : Unit → Mem → α) (N : α) (n : Nat) (a0 : Nat) (x1 : Int32) (x2 : Int32) (x3 : Int32) (M : Mem) : α := if x1 < 0 then R () M else if x2 < 0 then R () M else if 3 ≤ x2 then R () M else gd (fO M a0 4) N (bnd (M.2.2.2.2 a0 4) N (fun r6 => bnd (aLen M r6) N (fun z8 => if (Int32.ofNat z8) ≤ ((x1 * 3) + x2) then R () M else gd (fA M r6 1 ((x1 * 3) + x2)) N (R () (wI M r6 (((x1 * 3) + x2).toNatClampNeg) x3)))))
set_option maxHeartbeats 4000000 in
set_option maxRecDepth 100000 in
theorem n_X4_setFrom_0.{u, v} {α : Sort u} {β : Sort v} (h : α → β) (R : Unit → Mem → α) (N : α) (n : Nat) (a0 : Nat) (x1 : Int32) (x2 : Int32) (x3 : Int32) (M : Mem) : h (T_X4_setFrom_0 R N n a0 x1 x2 x3 M) = T_X4_setFrom_0 (fun v M => h (R v M)) (h N) n a0 x1 x2 x3 M := by
  simp only [T_X4_setFrom_0, nat_ite h, nat_gd h, nat_bnd h, nat_bnd2 h]
set_option maxHeartbeats 4000000 in
set_option maxRecDepth 100000 in
theorem w_X4_setFrom_0 {X : Nat × (Nat → Int32)} {al : Bool} {n : Nat} {Q : Option Value → Mem → Prop} {R : Unit → Mem → Prop} (hR : ∀ v M, R v M → Q none M) {a0 : Nat} {x1 : Int32} {x2 : Int32} {x3 : Int32} {M : Mem} (h : T_X4_setFrom_0 R False n a0 x1 x2 x3 M) : AW X (RX4, cX4_setFrom, 5, none, false, al, n) 0 0 0 [(0, .ref a0), (1, .int x1), (2, .int x2), (3, .int x3)] [] M Q := by
  unfold T_X4_setFrom_0 at h
  refine a_iload_n dX4_setFrom_0 rfl rfl ?_
  refine a_iconst (v := 3) dX4_setFrom_1 (by decide) ?_
  refine a_imul dX4_setFrom_2 ?_
  refine a_iload_n dX4_setFrom_3 rfl rfl ?_
  refine a_iadd dX4_setFrom_4 ?_
  refine a_istore dX4_setFrom_5 (Nat.le_of_ble_eq_true rfl) (lv2 := [(4, .int ((x1 * 3) + x2)), (0, .ref a0), (1, .int x1), (2, .int x2), (3, .int x3)]) rfl ?_
  refine a_iload_n dX4_setFrom_7 rfl rfl ?_
  refine a_if_lt 38 dX4_setFrom_8 (by decide) (fun c1 => ?_) (fun c1 => ?_)
  · replace h := ite_t c1 h
    exact a_vret dX4_setFrom_38 rfl (hR _ _ h)
  · replace h := ite_f c1 h
    refine a_iload_n dX4_setFrom_11 rfl rfl ?_
    refine a_if_lt 38 dX4_setFrom_12 (by decide) (fun c2 => ?_) (fun c2 => ?_)
    · replace h := ite_t c2 h
      exact a_vret dX4_setFrom_38 rfl (hR _ _ h)
    · replace h := ite_f c2 h
      refine a_iload_n dX4_setFrom_15 rfl rfl ?_
      refine a_iconst (v := 3) dX4_setFrom_16 (by decide) ?_
      refine a_icmp_ge 38 dX4_setFrom_17 (by decide) (fun c3 => ?_) (fun c3 => ?_)
      · replace h := ite_t c3 h
        exact a_vret dX4_setFrom_38 rfl (hR _ _ h)
      · replace h := ite_f c3 h
        refine a_iload dX4_setFrom_20 rfl ?_
        refine a_aload_n dX4_setFrom_22 rfl rfl ?_
        obtain ⟨⟨ga4, gs5⟩, h⟩ := gd_t h
        obtain ⟨r6, e7, h⟩ := bnd_t h
        refine a_get (v := .ref r6) dX4_setFrom_23 fl_4_21 ga4 gs5 (gvR e7 rfl) ?_
        obtain ⟨z8, e9, h⟩ := bnd_t h
        obtain ⟨ga10, gt11, gu12, gs13⟩ := aLen_t e9
        refine a_alen gu12 dX4_setFrom_26 ga10 gs13 rfl ?_
        refine a_icmp_ge 38 dX4_setFrom_27 (by decide) (fun c14 => ?_) (fun c14 => ?_)
        · replace h := ite_t c14 h
          exact a_vret dX4_setFrom_38 rfl (hR _ _ h)
        · replace h := ite_f c14 h
          refine a_aload_n dX4_setFrom_30 rfl rfl ?_
          refine a_get (v := .ref r6) dX4_setFrom_31 fl_4_21 ga4 gs5 (gvR e7 rfl) ?_
          refine a_iload dX4_setFrom_34 rfl ?_
          refine a_iload_n dX4_setFrom_36 rfl rfl ?_
          obtain ⟨⟨ga15, gn16, gs17, gi18⟩, h⟩ := gd_t h
          refine a_iastore dX4_setFrom_37 ga15 gs17 gi18 ?_
          exact a_vret dX4_setFrom_38 rfl (hR _ _ h)
noncomputable def b_X4_setFrom (n : Nat) (a0 : Nat) (x1 : Int32) (x2 : Int32) (x3 : Int32) (M : Mem) : Option (Unit × Mem) := T_X4_setFrom_0 (fun v M => some (v, M)) none n a0 x1 x2 x3 M
set_option maxHeartbeats 4000000 in
set_option maxRecDepth 100000 in
theorem sb_X4_setFrom {X : Nat × (Nat → Int32)} {al : Bool} {n : Nat} {a0 : Nat} {x1 : Int32} {x2 : Int32} {x3 : Int32} {M : Mem} {v : Unit} {M1 : Mem} (h : b_X4_setFrom n a0 x1 x2 x3 M = some (v, M1)) : AE yX4_setFrom cX4_setFrom 5 none al n X [.ref a0, .int x1, .int x2, .int x3] M none M1 := by
  refine AM.of false (by decide +kernel) (by intro h; cases h) (Nat.le_of_ble_eq_true rfl) ?_
  have h2 : T_X4_setFrom_0 (fun v2 M2 => some (v2, M2) = some (v, M1)) (none = some (v, M1)) n a0 x1 x2 x3 M := (n_X4_setFrom_0 (fun o => o = some (v, M1)) (fun v M => some (v, M)) none n a0 x1 x2 x3 M).mp h
  have h3 : ((none : Option (Unit × Mem)) = some (v, M1)) = False := eq_false (by intro q; cases q)
  rw [h3] at h2
  exact w_X4_setFrom_0 (fun v2 M2 h => by cases h; exact ⟨rfl, rfl⟩) h2

noncomputable abbrev f_X4_setFrom := b_X4_setFrom
theorem s_X4_setFrom {X : Nat × (Nat → Int32)} {al : Bool} {n : Nat} {a0 : Nat} {x1 : Int32} {x2 : Int32} {x3 : Int32} {M : Mem} {v : Unit} {M1 : Mem} (h : f_X4_setFrom n a0 x1 x2 x3 M = some (v, M1)) : AE yX4_setFrom cX4_setFrom 5 none al n X [.ref a0, .int x1, .int x2, .int x3] M none M1 := sb_X4_setFrom h
def ix_X4_endNode (c : Nat) : List Nat := if c = 0 then [0, 1, 2] else if c = 44 then [0, 1, 2, 3] else if c = 65 then [0, 1, 2, 3, 4] else if c = 104 then [0, 1, 3, 4, 5, 6, 7] else []
def PW_X4_endNode (X : Nat × (Nat → Int32)) (al : Bool) (n : Nat) (Q : Option Value → Mem → Prop) (c : Nat) (l : List Value) (M : Mem) : Prop := AW X (RX4, cX4_endNode, 8, none, false, al, n) 0 0 c (List.zip (ix_X4_endNode c) l) (l.drop (ix_X4_endNode c).length) M Q
set_option maxHeartbeats 4000000 in
set_option maxRecDepth 100000 in
noncomputable def T_X4_endNode_0.{u} {α : Sort u} (J : Nat → List Value → Mem → α) (R : Unit → Mem → α) (N : α) (n : Nat) (a0 : Nat) (a1 : Nat) (x2 : Int32) (M : Mem) : α := gd (fO M a1 3) N (bnd (M.2.2.2.2 a1 2) N (fun r3 => gd (fO M r3 9) N (bnd2 (cal n (fun n => f_X9_opAt n r3 x2 M)) N (fun v7 M8 => if v7 = 1 then gd (fO M8 a1 3) N (bnd (M8.2.2.2.2 a1 2) N (fun r36 => gd (fO M8 r36 9) N (bnd2 (cal n (fun n => f_X9_argAt n r36 x2 M8)) N (fun v40 M41 => gd (fO M41 a0 4) N (bnd2 (cal n (fun n => f_X4_lineOfName n a0 v40 M41)) N (fun v47 M48 => J 44 [.ref a0, .ref a1, .int x2, .int v7, .int v47] M48)))))) else gd (fO M8 a1 3) N (bnd2 (cal n (fun n => f_X3_typeOf n a1 x2 M8)) N (fun v15 M16 => gd (fO M16 a1 3) N (bnd2 (cal n (fun n => f_X3_depthOf n a1 x2 M16)) N (fun v22 M23 => gd (fO M23 a0 4) N (bnd2 (cal n (fun n => f_X4_addLine n a0 v7 v15 v22 M23)) N (fun v29 M30 => J 44 [.ref a0, .ref a1, .int x2, .int v7, .int v29] M30))))))))))
set_option maxHeartbeats 4000000 in
set_option maxRecDepth 100000 in
theorem n_X4_endNode_0.{u, v} {α : Sort u} {β : Sort v} (h : α → β) (J : Nat → List Value → Mem → α) (R : Unit → Mem → α) (N : α) (n : Nat) (a0 : Nat) (a1 : Nat) (x2 : Int32) (M : Mem) : h (T_X4_endNode_0 J R N n a0 a1 x2 M) = T_X4_endNode_0 (fun c l M => h (J c l M)) (fun v M => h (R v M)) (h N) n a0 a1 x2 M := by
  simp only [T_X4_endNode_0, nat_ite h, nat_gd h, nat_bnd h, nat_bnd2 h]
set_option maxHeartbeats 4000000 in
set_option maxRecDepth 100000 in
theorem w_X4_endNode_0 {X : Nat × (Nat → Int32)} {al : Bool} {n : Nat} {Q : Option Value → Mem → Prop} {J : Nat → List Value → Mem → Prop} (hJ : ∀ c l M, J c l M → PW_X4_endNode X al n Q c l M) {R : Unit → Mem → Prop} (hR : ∀ v M, R v M → Q none M) {a0 : Nat} {a1 : Nat} {x2 : Int32} {M : Mem} (h : T_X4_endNode_0 J R False n a0 a1 x2 M) : AW X (RX4, cX4_endNode, 8, none, false, al, n) 0 0 0 [(0, .ref a0), (1, .ref a1), (2, .int x2)] [] M Q := by
  unfold T_X4_endNode_0 at h
  refine a_aload_n dX4_endNode_0 rfl rfl ?_
  obtain ⟨⟨ga1, gs2⟩, h⟩ := gd_t h
  obtain ⟨r3, e4, h⟩ := bnd_t h
  refine a_getN (v := .ref r3) dX4_endNode_1 fn_4_74 ga1 gs2 (gvR e4 rfl) ?_
  refine a_iload_n dX4_endNode_4 rfl rfl ?_
  obtain ⟨⟨ga5, gs6⟩, h⟩ := gd_t h
  obtain ⟨v7, M8, e9, h⟩ := bnd2_t h
  obtain ⟨n10, en11, e9⟩ := cal_t e9
  refine e_callV (As := [.int x2]) (st := []) (a := r3) (ci := 9) false dX4_endNode_5 mw_X9_opAt (Or.inl ⟨rfl, ml_X4_78⟩) im_X9_opAt se_X9_opAt (by decide) ga5 gs6 rfl (Nat.le_of_ble_eq_true rfl) en11 (s_X9_opAt e9) ?_
  refine a_istore_n dX4_endNode_8 rfl (Nat.le_of_ble_eq_true rfl) (lv2 := [(3, .int v7), (0, .ref a0), (1, .ref a1), (2, .int x2)]) rfl ?_
  refine a_iload_n dX4_endNode_9 rfl rfl ?_
  refine a_iconst (v := 1) dX4_endNode_10 (by decide) ?_
  refine a_icmp_ne 29 dX4_endNode_11 (by decide) (fun c12 => ?_) (fun c12 => ?_)
  · replace h := ite_f c12 h
    refine a_aload_n dX4_endNode_29 rfl rfl ?_
    refine a_iload_n dX4_endNode_30 rfl rfl ?_
    refine a_aload_n dX4_endNode_31 rfl rfl ?_
    refine a_iload_n dX4_endNode_32 rfl rfl ?_
    obtain ⟨⟨ga13, gs14⟩, h⟩ := gd_t h
    obtain ⟨v15, M16, e17, h⟩ := bnd2_t h
    obtain ⟨n18, en19, e17⟩ := cal_t e17
    refine e_callV (As := [.int x2]) (st := [.int v7, .ref a0]) (a := a1) (ci := 3) false dX4_endNode_33 mw_X3_typeOf (Or.inl ⟨rfl, ml_X4_89⟩) im_X3_typeOf se_X3_typeOf (by decide) ga13 gs14 rfl (Nat.le_of_ble_eq_true rfl) en19 (s_X3_typeOf e17) ?_
    refine a_aload_n dX4_endNode_36 rfl rfl ?_
    refine a_iload_n dX4_endNode_37 rfl rfl ?_
    obtain ⟨⟨ga20, gs21⟩, h⟩ := gd_t h
    obtain ⟨v22, M23, e24, h⟩ := bnd2_t h
    obtain ⟨n25, en26, e24⟩ := cal_t e24
    refine e_callV (As := [.int x2]) (st := [.int v15, .int v7, .ref a0]) (a := a1) (ci := 3) false dX4_endNode_38 mw_X3_depthOf (Or.inl ⟨rfl, ml_X4_68⟩) im_X3_depthOf se_X3_depthOf (by decide) ga20 gs21 rfl (Nat.le_of_ble_eq_true rfl) en26 (s_X3_depthOf e24) ?_
    obtain ⟨⟨ga27, gs28⟩, h⟩ := gd_t h
    obtain ⟨v29, M30, e31, h⟩ := bnd2_t h
    obtain ⟨n32, en33, e31⟩ := cal_t e31
    refine e_callV (As := [.int v7, .int v15, .int v22]) (st := []) (a := a0) (ci := 4) false dX4_endNode_41 mw_X4_addLine (Or.inl ⟨rfl, ml_X4_49⟩) im_X4_addLine se_X4_addLine (by decide) ga27 gs28 rfl (Nat.le_of_ble_eq_true rfl) en33 (s_X4_addLine e31) ?_
    exact a_lv (lv2 := [(0, .ref a0), (1, .ref a1), (2, .int x2), (3, .int v7)]) (fa_cons rfl (fa_cons rfl (fa_cons rfl (fa_cons rfl fa_nil)))) (hJ _ _ _ h)
  · replace h := ite_t c12 h
    refine a_aload_n dX4_endNode_14 rfl rfl ?_
    refine a_aload_n dX4_endNode_15 rfl rfl ?_
    obtain ⟨⟨ga34, gs35⟩, h⟩ := gd_t h
    obtain ⟨r36, e37, h⟩ := bnd_t h
    refine a_getN (v := .ref r36) dX4_endNode_16 fn_4_74 ga34 gs35 (gvR e37 rfl) ?_
    refine a_iload_n dX4_endNode_19 rfl rfl ?_
    obtain ⟨⟨ga38, gs39⟩, h⟩ := gd_t h
    obtain ⟨v40, M41, e42, h⟩ := bnd2_t h
    obtain ⟨n43, en44, e42⟩ := cal_t e42
    refine e_callV (As := [.int x2]) (st := [.ref a0]) (a := r36) (ci := 9) false dX4_endNode_20 mw_X9_argAt (Or.inl ⟨rfl, ml_X4_83⟩) im_X9_argAt se_X9_argAt (by decide) ga38 gs39 rfl (Nat.le_of_ble_eq_true rfl) en44 (s_X9_argAt e42) ?_
    obtain ⟨⟨ga45, gs46⟩, h⟩ := gd_t h
    obtain ⟨v47, M48, e49, h⟩ := bnd2_t h
    obtain ⟨n50, en51, e49⟩ := cal_t e49
    refine e_callV (As := [.int v40]) (st := []) (a := a0) (ci := 4) false dX4_endNode_23 mw_X4_lineOfName (Or.inl ⟨rfl, ml_X4_86⟩) im_X4_lineOfName se_X4_lineOfName (by decide) ga45 gs46 rfl (Nat.le_of_ble_eq_true rfl) en51 (s_X4_lineOfName e49) ?_
    refine a_goto 44 dX4_endNode_26 (by decide) ?_
    exact a_lv (lv2 := [(0, .ref a0), (1, .ref a1), (2, .int x2), (3, .int v7)]) (fa_cons rfl (fa_cons rfl (fa_cons rfl (fa_cons rfl fa_nil)))) (hJ _ _ _ h)
set_option maxHeartbeats 4000000 in
set_option maxRecDepth 100000 in
noncomputable def T_X4_endNode_44.{u} {α : Sort u} (J : Nat → List Value → Mem → α) (R : Unit → Mem → α) (N : α) (n : Nat) (a0 : Nat) (a1 : Nat) (x2 : Int32) (x3 : Int32) (xs0 : Int32) (M : Mem) : α := if x2 < 0 then J 65 [.ref a0, .ref a1, .int x2, .int x3, .int xs0] M else if 200 ≤ x2 then J 65 [.ref a0, .ref a1, .int x2, .int x3, .int xs0] M else gd (fO M a0 4) N (bnd (M.2.2.2.2 a0 5) N (fun r5 => gd (fA M r5 1 x2) N (J 65 [.ref a0, .ref a1, .int x2, .int x3, .int xs0] (wI M r5 (x2.toNatClampNeg) xs0))))
set_option maxHeartbeats 4000000 in
set_option maxRecDepth 100000 in
theorem n_X4_endNode_44.{u, v} {α : Sort u} {β : Sort v} (h : α → β) (J : Nat → List Value → Mem → α) (R : Unit → Mem → α) (N : α) (n : Nat) (a0 : Nat) (a1 : Nat) (x2 : Int32) (x3 : Int32) (xs0 : Int32) (M : Mem) : h (T_X4_endNode_44 J R N n a0 a1 x2 x3 xs0 M) = T_X4_endNode_44 (fun c l M => h (J c l M)) (fun v M => h (R v M)) (h N) n a0 a1 x2 x3 xs0 M := by
  simp only [T_X4_endNode_44, nat_ite h, nat_gd h, nat_bnd h, nat_bnd2 h]
set_option maxHeartbeats 4000000 in
set_option maxRecDepth 100000 in
theorem w_X4_endNode_44 {X : Nat × (Nat → Int32)} {al : Bool} {n : Nat} {Q : Option Value → Mem → Prop} {J : Nat → List Value → Mem → Prop} (hJ : ∀ c l M, J c l M → PW_X4_endNode X al n Q c l M) {R : Unit → Mem → Prop} (hR : ∀ v M, R v M → Q none M) {a0 : Nat} {a1 : Nat} {x2 : Int32} {x3 : Int32} {xs0 : Int32} {M : Mem} (h : T_X4_endNode_44 J R False n a0 a1 x2 x3 xs0 M) : AW X (RX4, cX4_endNode, 8, none, false, al, n) 0 0 44 [(0, .ref a0), (1, .ref a1), (2, .int x2), (3, .int x3)] [.int xs0] M Q := by
  unfold T_X4_endNode_44 at h
  refine a_istore dX4_endNode_44 (Nat.le_of_ble_eq_true rfl) (lv2 := [(4, .int xs0), (0, .ref a0), (1, .ref a1), (2, .int x2), (3, .int x3)]) rfl ?_
  refine a_iload_n dX4_endNode_46 rfl rfl ?_
  refine a_if_lt 65 dX4_endNode_47 (by decide) (fun c1 => ?_) (fun c1 => ?_)
  · replace h := ite_t c1 h
    exact a_lv (lv2 := [(0, .ref a0), (1, .ref a1), (2, .int x2), (3, .int x3), (4, .int xs0)]) (fa_cons rfl (fa_cons rfl (fa_cons rfl (fa_cons rfl (fa_cons rfl fa_nil))))) (hJ _ _ _ h)
  · replace h := ite_f c1 h
    refine a_iload_n dX4_endNode_50 rfl rfl ?_
    refine a_sipush (v := 200) dX4_endNode_51 (by decide) ?_
    refine a_icmp_ge 65 dX4_endNode_54 (by decide) (fun c2 => ?_) (fun c2 => ?_)
    · replace h := ite_t c2 h
      exact a_lv (lv2 := [(0, .ref a0), (1, .ref a1), (2, .int x2), (3, .int x3), (4, .int xs0)]) (fa_cons rfl (fa_cons rfl (fa_cons rfl (fa_cons rfl (fa_cons rfl fa_nil))))) (hJ _ _ _ h)
    · replace h := ite_f c2 h
      refine a_aload_n dX4_endNode_57 rfl rfl ?_
      obtain ⟨⟨ga3, gs4⟩, h⟩ := gd_t h
      obtain ⟨r5, e6, h⟩ := bnd_t h
      refine a_get (v := .ref r5) dX4_endNode_58 fl_4_24 ga3 gs4 (gvR e6 rfl) ?_
      refine a_iload_n dX4_endNode_61 rfl rfl ?_
      refine a_iload dX4_endNode_62 rfl ?_
      obtain ⟨⟨ga7, gn8, gs9, gi10⟩, h⟩ := gd_t h
      refine a_iastore dX4_endNode_64 ga7 gs9 gi10 ?_
      exact a_lv (lv2 := [(0, .ref a0), (1, .ref a1), (2, .int x2), (3, .int x3), (4, .int xs0)]) (fa_cons rfl (fa_cons rfl (fa_cons rfl (fa_cons rfl (fa_cons rfl fa_nil))))) (hJ _ _ _ h)
set_option maxHeartbeats 4000000 in
set_option maxRecDepth 100000 in
noncomputable def T_X4_endNode_65.{u} {α : Sort u} (J : Nat → List Value → Mem → α) (R : Unit → Mem → α) (N : α) (n : Nat) (a0 : Nat) (a1 : Nat) (x2 : Int32) (x3 : Int32) (x4 : Int32) (M : Mem) : α := if x3 = 2 then gd (fO M a0 4) N (bnd (M.2.2.2.2 a0 6) N (fun r4 => gd (fO M a1 3) N (bnd2 (cal n (fun n => f_X3_depthOf n a1 x2 M)) N (fun v8 M9 => bnd2 (cal n (fun n => f_X10_at n r4 v8 M9)) N (fun v13 M14 => gd (fO M14 a0 4) N (bnd2 (cal n (fun n => f_X4_setFrom n a0 x4 0 v13 M14)) N (fun _ M20 => J 104 [.ref a0, .ref a1, .int x3, .int x4, .int 1, .int (x2 + 1), .int 0] M20))))))) else J 104 [.ref a0, .ref a1, .int x3, .int x4, .int 0, .int (x2 + 1), .int 0] M
set_option maxHeartbeats 4000000 in
set_option maxRecDepth 100000 in
theorem n_X4_endNode_65.{u, v} {α : Sort u} {β : Sort v} (h : α → β) (J : Nat → List Value → Mem → α) (R : Unit → Mem → α) (N : α) (n : Nat) (a0 : Nat) (a1 : Nat) (x2 : Int32) (x3 : Int32) (x4 : Int32) (M : Mem) : h (T_X4_endNode_65 J R N n a0 a1 x2 x3 x4 M) = T_X4_endNode_65 (fun c l M => h (J c l M)) (fun v M => h (R v M)) (h N) n a0 a1 x2 x3 x4 M := by
  simp only [T_X4_endNode_65, nat_ite h, nat_gd h, nat_bnd h, nat_bnd2 h]
set_option maxHeartbeats 4000000 in
set_option maxRecDepth 100000 in
theorem w_X4_endNode_65 {X : Nat × (Nat → Int32)} {al : Bool} {n : Nat} {Q : Option Value → Mem → Prop} {J : Nat → List Value → Mem → Prop} (hJ : ∀ c l M, J c l M → PW_X4_endNode X al n Q c l M) {R : Unit → Mem → Prop} (hR : ∀ v M, R v M → Q none M) {a0 : Nat} {a1 : Nat} {x2 : Int32} {x3 : Int32} {x4 : Int32} {M : Mem} (h : T_X4_endNode_65 J R False n a0 a1 x2 x3 x4 M) : AW X (RX4, cX4_endNode, 8, none, false, al, n) 0 0 65 [(0, .ref a0), (1, .ref a1), (2, .int x2), (3, .int x3), (4, .int x4)] [] M Q := by
  unfold T_X4_endNode_65 at h
  refine a_iconst (v := 0) dX4_endNode_65 (by decide) ?_
  refine a_istore dX4_endNode_66 (Nat.le_of_ble_eq_true rfl) (lv2 := [(5, .int 0), (0, .ref a0), (1, .ref a1), (2, .int x2), (3, .int x3), (4, .int x4)]) rfl ?_
  refine a_iload_n dX4_endNode_68 rfl rfl ?_
  refine a_iconst (v := 2) dX4_endNode_69 (by decide) ?_
  refine a_icmp_ne 96 dX4_endNode_70 (by decide) (fun c1 => ?_) (fun c1 => ?_)
  · replace h := ite_f c1 h
    refine a_iload_n dX4_endNode_96 rfl rfl ?_
    refine a_iconst (v := 1) dX4_endNode_97 (by decide) ?_
    refine a_iadd dX4_endNode_98 ?_
    refine a_istore dX4_endNode_99 (Nat.le_of_ble_eq_true rfl) (lv2 := [(6, .int (x2 + 1)), (5, .int 0), (0, .ref a0), (1, .ref a1), (2, .int x2), (3, .int x3), (4, .int x4)]) rfl ?_
    refine a_iconst (v := 0) dX4_endNode_101 (by decide) ?_
    refine a_istore dX4_endNode_102 (Nat.le_of_ble_eq_true rfl) (lv2 := [(7, .int 0), (6, .int (x2 + 1)), (5, .int 0), (0, .ref a0), (1, .ref a1), (2, .int x2), (3, .int x3), (4, .int x4)]) rfl ?_
    exact a_lv (lv2 := [(0, .ref a0), (1, .ref a1), (3, .int x3), (4, .int x4), (5, .int 0), (6, .int (x2 + 1)), (7, .int 0)]) (fa_cons rfl (fa_cons rfl (fa_cons rfl (fa_cons rfl (fa_cons rfl (fa_cons rfl (fa_cons rfl fa_nil))))))) (hJ _ _ _ h)
  · replace h := ite_t c1 h
    refine a_aload_n dX4_endNode_73 rfl rfl ?_
    refine a_iload dX4_endNode_74 rfl ?_
    refine a_iload dX4_endNode_76 rfl ?_
    refine a_aload_n dX4_endNode_78 rfl rfl ?_
    obtain ⟨⟨ga2, gs3⟩, h⟩ := gd_t h
    obtain ⟨r4, e5, h⟩ := bnd_t h
    refine a_get (v := .ref r4) dX4_endNode_79 fl_4_27 ga2 gs3 (gvR e5 rfl) ?_
    refine a_aload_n dX4_endNode_82 rfl rfl ?_
    refine a_iload_n dX4_endNode_83 rfl rfl ?_
    obtain ⟨⟨ga6, gs7⟩, h⟩ := gd_t h
    obtain ⟨v8, M9, e10, h⟩ := bnd2_t h
    obtain ⟨n11, en12, e10⟩ := cal_t e10
    refine e_callV (As := [.int x2]) (st := [.ref r4, .int 0, .int x4, .ref a0]) (a := a1) (ci := 3) false dX4_endNode_84 mw_X3_depthOf (Or.inl ⟨rfl, ml_X4_68⟩) im_X3_depthOf se_X3_depthOf (by decide) ga6 gs7 rfl (Nat.le_of_ble_eq_true rfl) en12 (s_X3_depthOf e10) ?_
    obtain ⟨v13, M14, e15, h⟩ := bnd2_t h
    obtain ⟨n16, en17, e15⟩ := cal_t e15
    refine e_callS (As := [.ref r4, .int v8]) (st := [.int 0, .int x4, .ref a0]) true dX4_endNode_87 mw_X10_at (Or.inr ⟨rfl, mn_X4_34⟩) sm_X10_at rfl (Nat.le_of_ble_eq_true rfl) en17 (s_X10_at e15) ?_
    obtain ⟨⟨ga18, gs19⟩, h⟩ := gd_t h
    obtain ⟨_, M20, e21, h⟩ := bnd2_t h
    obtain ⟨n22, en23, e21⟩ := cal_t e21
    refine e_callV (As := [.int x4, .int 0, .int v13]) (st := []) (a := a0) (ci := 4) false dX4_endNode_90 mw_X4_setFrom (Or.inl ⟨rfl, ml_X4_92⟩) im_X4_setFrom se_X4_setFrom (by decide) ga18 gs19 rfl (Nat.le_of_ble_eq_true rfl) en23 (s_X4_setFrom e21) ?_
    refine a_iinc (v := 1) dX4_endNode_93 rfl (by first | rfl | decide) (Nat.le_of_ble_eq_true rfl) (lv2 := [(5, .int 1), (0, .ref a0), (1, .ref a1), (2, .int x2), (3, .int x3), (4, .int x4)]) rfl ?_
    refine a_iload_n dX4_endNode_96 rfl rfl ?_
    refine a_iconst (v := 1) dX4_endNode_97 (by decide) ?_
    refine a_iadd dX4_endNode_98 ?_
    refine a_istore dX4_endNode_99 (Nat.le_of_ble_eq_true rfl) (lv2 := [(6, .int (x2 + 1)), (5, .int 1), (0, .ref a0), (1, .ref a1), (2, .int x2), (3, .int x3), (4, .int x4)]) rfl ?_
    refine a_iconst (v := 0) dX4_endNode_101 (by decide) ?_
    refine a_istore dX4_endNode_102 (Nat.le_of_ble_eq_true rfl) (lv2 := [(7, .int 0), (6, .int (x2 + 1)), (5, .int 1), (0, .ref a0), (1, .ref a1), (2, .int x2), (3, .int x3), (4, .int x4)]) rfl ?_
    exact a_lv (lv2 := [(0, .ref a0), (1, .ref a1), (3, .int x3), (4, .int x4), (5, .int 1), (6, .int (x2 + 1)), (7, .int 0)]) (fa_cons rfl (fa_cons rfl (fa_cons rfl (fa_cons rfl (fa_cons rfl (fa_cons rfl (fa_cons rfl fa_nil))))))) (hJ _ _ _ h)
set_option maxHeartbeats 4000000 in
set_option maxRecDepth 100000 in
noncomputable def T_X4_endNode_104.{u} {α : Sort u} (J : Nat → List Value → Mem → α) (R : Unit → Mem → α) (N : α) (n : Nat) (a0 : Nat) (a1 : Nat) (x3 : Int32) (x4 : Int32) (x5 : Int32) (x6 : Int32) (x7 : Int32) (M : Mem) : α := bnd2 (cal n (fun n => f_X10_arity n x3 M)) N (fun v1 M2 => if v1 ≤ x7 then R () M2 else gd (fO M2 a0 4) N (bnd (M2.2.2.2.2 a0 5) N (fun r9 => bnd2 (cal n (fun n => f_X10_at n r9 x6 M2)) N (fun v11 M12 => gd (fO M12 a0 4) N (bnd2 (cal n (fun n => f_X4_setFrom n a0 x4 x5 v11 M12)) N (fun _ M18 => gd (fO M18 a1 3) N (bnd2 (cal n (fun n => f_X3_endOf n a1 x6 M18)) N (fun v24 M25 => J 104 [.ref a0, .ref a1, .int x3, .int x4, .int (x5 + 1), .int v24, .int (x7 + 1)] M25))))))))
set_option maxHeartbeats 4000000 in
set_option maxRecDepth 100000 in
theorem n_X4_endNode_104.{u, v} {α : Sort u} {β : Sort v} (h : α → β) (J : Nat → List Value → Mem → α) (R : Unit → Mem → α) (N : α) (n : Nat) (a0 : Nat) (a1 : Nat) (x3 : Int32) (x4 : Int32) (x5 : Int32) (x6 : Int32) (x7 : Int32) (M : Mem) : h (T_X4_endNode_104 J R N n a0 a1 x3 x4 x5 x6 x7 M) = T_X4_endNode_104 (fun c l M => h (J c l M)) (fun v M => h (R v M)) (h N) n a0 a1 x3 x4 x5 x6 x7 M := by
  simp only [T_X4_endNode_104, nat_ite h, nat_gd h, nat_bnd h, nat_bnd2 h]
set_option maxHeartbeats 4000000 in
set_option maxRecDepth 100000 in
theorem w_X4_endNode_104 {X : Nat × (Nat → Int32)} {al : Bool} {n : Nat} {Q : Option Value → Mem → Prop} {J : Nat → List Value → Mem → Prop} (hJ : ∀ c l M, J c l M → PW_X4_endNode X al n Q c l M) {R : Unit → Mem → Prop} (hR : ∀ v M, R v M → Q none M) {a0 : Nat} {a1 : Nat} {x3 : Int32} {x4 : Int32} {x5 : Int32} {x6 : Int32} {x7 : Int32} {M : Mem} (h : T_X4_endNode_104 J R False n a0 a1 x3 x4 x5 x6 x7 M) : AW X (RX4, cX4_endNode, 8, none, false, al, n) 0 0 104 [(0, .ref a0), (1, .ref a1), (3, .int x3), (4, .int x4), (5, .int x5), (6, .int x6), (7, .int x7)] [] M Q := by
  unfold T_X4_endNode_104 at h
  refine a_iload dX4_endNode_104 rfl ?_
  refine a_iload_n dX4_endNode_106 rfl rfl ?_
  obtain ⟨v1, M2, e3, h⟩ := bnd2_t h
  obtain ⟨n4, en5, e3⟩ := cal_t e3
  refine e_callS (As := [.int x3]) (st := [.int x7]) true dX4_endNode_107 mw_X10_arity (Or.inr ⟨rfl, mn_X4_96⟩) sm_X10_arity rfl (Nat.le_of_ble_eq_true rfl) en5 (s_X10_arity e3) ?_
  refine a_icmp_ge 147 dX4_endNode_110 (by decide) (fun c6 => ?_) (fun c6 => ?_)
  · replace h := ite_t c6 h
    exact a_vret dX4_endNode_147 rfl (hR _ _ h)
  · replace h := ite_f c6 h
    refine a_aload_n dX4_endNode_113 rfl rfl ?_
    refine a_iload dX4_endNode_114 rfl ?_
    refine a_iload dX4_endNode_116 rfl ?_
    refine a_aload_n dX4_endNode_118 rfl rfl ?_
    obtain ⟨⟨ga7, gs8⟩, h⟩ := gd_t h
    obtain ⟨r9, e10, h⟩ := bnd_t h
    refine a_get (v := .ref r9) dX4_endNode_119 fl_4_24 ga7 gs8 (gvR e10 rfl) ?_
    refine a_iload dX4_endNode_122 rfl ?_
    obtain ⟨v11, M12, e13, h⟩ := bnd2_t h
    obtain ⟨n14, en15, e13⟩ := cal_t e13
    refine e_callS (As := [.ref r9, .int x6]) (st := [.int x5, .int x4, .ref a0]) true dX4_endNode_124 mw_X10_at (Or.inr ⟨rfl, mn_X4_34⟩) sm_X10_at rfl (Nat.le_of_ble_eq_true rfl) en15 (s_X10_at e13) ?_
    obtain ⟨⟨ga16, gs17⟩, h⟩ := gd_t h
    obtain ⟨_, M18, e19, h⟩ := bnd2_t h
    obtain ⟨n20, en21, e19⟩ := cal_t e19
    refine e_callV (As := [.int x4, .int x5, .int v11]) (st := []) (a := a0) (ci := 4) false dX4_endNode_127 mw_X4_setFrom (Or.inl ⟨rfl, ml_X4_92⟩) im_X4_setFrom se_X4_setFrom (by decide) ga16 gs17 rfl (Nat.le_of_ble_eq_true rfl) en21 (s_X4_setFrom e19) ?_
    refine a_iinc (v := (x5 + 1)) dX4_endNode_130 rfl (by first | rfl | decide) (Nat.le_of_ble_eq_true rfl) (lv2 := [(5, .int (x5 + 1)), (0, .ref a0), (1, .ref a1), (3, .int x3), (4, .int x4), (6, .int x6), (7, .int x7)]) rfl ?_
    refine a_aload_n dX4_endNode_133 rfl rfl ?_
    refine a_iload dX4_endNode_134 rfl ?_
    obtain ⟨⟨ga22, gs23⟩, h⟩ := gd_t h
    obtain ⟨v24, M25, e26, h⟩ := bnd2_t h
    obtain ⟨n27, en28, e26⟩ := cal_t e26
    refine e_callV (As := [.int x6]) (st := []) (a := a1) (ci := 3) false dX4_endNode_136 mw_X3_endOf (Or.inl ⟨rfl, ml_X4_99⟩) im_X3_endOf se_X3_endOf (by decide) ga22 gs23 rfl (Nat.le_of_ble_eq_true rfl) en28 (s_X3_endOf e26) ?_
    refine a_istore dX4_endNode_139 (Nat.le_of_ble_eq_true rfl) (lv2 := [(6, .int v24), (5, .int (x5 + 1)), (0, .ref a0), (1, .ref a1), (3, .int x3), (4, .int x4), (7, .int x7)]) rfl ?_
    refine a_iinc (v := (x7 + 1)) dX4_endNode_141 rfl (by first | rfl | decide) (Nat.le_of_ble_eq_true rfl) (lv2 := [(7, .int (x7 + 1)), (6, .int v24), (5, .int (x5 + 1)), (0, .ref a0), (1, .ref a1), (3, .int x3), (4, .int x4)]) rfl ?_
    refine a_goto 104 dX4_endNode_144 (by decide) ?_
    exact a_lv (lv2 := [(0, .ref a0), (1, .ref a1), (3, .int x3), (4, .int x4), (5, .int (x5 + 1)), (6, .int v24), (7, .int (x7 + 1))]) (fa_cons rfl (fa_cons rfl (fa_cons rfl (fa_cons rfl (fa_cons rfl (fa_cons rfl (fa_cons rfl fa_nil))))))) (hJ _ _ _ h)
set_option maxHeartbeats 4000000 in
set_option maxRecDepth 100000 in
noncomputable def st_X4_endNode (n : Nat) (s : Sg) : Option (Sg ⊕ (Unit × Mem)) := if s.1 = 0 then vR s.2.1 none (fun a0 t => vR t none (fun a1 t => vI t none (fun x2 t => vE t none (T_X4_endNode_0 (fun c l M => some (.inl (c, l, M))) (fun v M => some (.inr (v, M))) none n a0 a1 x2 s.2.2)))) else if s.1 = 44 then vR s.2.1 none (fun a0 t => vR t none (fun a1 t => vI t none (fun x2 t => vI t none (fun x3 t => vI t none (fun xs0 t => vE t none (T_X4_endNode_44 (fun c l M => some (.inl (c, l, M))) (fun v M => some (.inr (v, M))) none n a0 a1 x2 x3 xs0 s.2.2)))))) else if s.1 = 65 then vR s.2.1 none (fun a0 t => vR t none (fun a1 t => vI t none (fun x2 t => vI t none (fun x3 t => vI t none (fun x4 t => vE t none (T_X4_endNode_65 (fun c l M => some (.inl (c, l, M))) (fun v M => some (.inr (v, M))) none n a0 a1 x2 x3 x4 s.2.2)))))) else if s.1 = 104 then vR s.2.1 none (fun a0 t => vR t none (fun a1 t => vI t none (fun x3 t => vI t none (fun x4 t => vI t none (fun x5 t => vI t none (fun x6 t => vI t none (fun x7 t => vE t none (T_X4_endNode_104 (fun c l M => some (.inl (c, l, M))) (fun v M => some (.inr (v, M))) none n a0 a1 x3 x4 x5 x6 x7 s.2.2)))))))) else none
noncomputable abbrev g_X4_endNode_0 (n : Nat) (a0 : Nat) (a1 : Nat) (x2 : Int32) (M : Mem) : Option (Unit × Mem) := lp (st_X4_endNode n) (0, [.ref a0, .ref a1, .int x2], M)
set_option maxHeartbeats 4000000 in
set_option maxRecDepth 100000 in
theorem ge_X4_endNode_0 (n : Nat) (a0 : Nat) (a1 : Nat) (x2 : Int32) (M : Mem) : g_X4_endNode_0 n a0 a1 x2 M = T_X4_endNode_0 (fun c l M => lp (st_X4_endNode n) (c, l, M)) (fun v M => some (v, M)) none n a0 a1 x2 M := (lp_eq _ _).trans (n_X4_endNode_0 (lpK (st_X4_endNode n)) (fun c l M => some (.inl (c, l, M))) (fun v M => some (.inr (v, M))) none n a0 a1 x2 M)
noncomputable abbrev g_X4_endNode_44 (n : Nat) (a0 : Nat) (a1 : Nat) (x2 : Int32) (x3 : Int32) (xs0 : Int32) (M : Mem) : Option (Unit × Mem) := lp (st_X4_endNode n) (44, [.ref a0, .ref a1, .int x2, .int x3, .int xs0], M)
set_option maxHeartbeats 4000000 in
set_option maxRecDepth 100000 in
theorem ge_X4_endNode_44 (n : Nat) (a0 : Nat) (a1 : Nat) (x2 : Int32) (x3 : Int32) (xs0 : Int32) (M : Mem) : g_X4_endNode_44 n a0 a1 x2 x3 xs0 M = T_X4_endNode_44 (fun c l M => lp (st_X4_endNode n) (c, l, M)) (fun v M => some (v, M)) none n a0 a1 x2 x3 xs0 M := (lp_eq _ _).trans (n_X4_endNode_44 (lpK (st_X4_endNode n)) (fun c l M => some (.inl (c, l, M))) (fun v M => some (.inr (v, M))) none n a0 a1 x2 x3 xs0 M)
noncomputable abbrev g_X4_endNode_65 (n : Nat) (a0 : Nat) (a1 : Nat) (x2 : Int32) (x3 : Int32) (x4 : Int32) (M : Mem) : Option (Unit × Mem) := lp (st_X4_endNode n) (65, [.ref a0, .ref a1, .int x2, .int x3, .int x4], M)
set_option maxHeartbeats 4000000 in
set_option maxRecDepth 100000 in
theorem ge_X4_endNode_65 (n : Nat) (a0 : Nat) (a1 : Nat) (x2 : Int32) (x3 : Int32) (x4 : Int32) (M : Mem) : g_X4_endNode_65 n a0 a1 x2 x3 x4 M = T_X4_endNode_65 (fun c l M => lp (st_X4_endNode n) (c, l, M)) (fun v M => some (v, M)) none n a0 a1 x2 x3 x4 M := (lp_eq _ _).trans (n_X4_endNode_65 (lpK (st_X4_endNode n)) (fun c l M => some (.inl (c, l, M))) (fun v M => some (.inr (v, M))) none n a0 a1 x2 x3 x4 M)
noncomputable abbrev g_X4_endNode_104 (n : Nat) (a0 : Nat) (a1 : Nat) (x3 : Int32) (x4 : Int32) (x5 : Int32) (x6 : Int32) (x7 : Int32) (M : Mem) : Option (Unit × Mem) := lp (st_X4_endNode n) (104, [.ref a0, .ref a1, .int x3, .int x4, .int x5, .int x6, .int x7], M)
set_option maxHeartbeats 4000000 in
set_option maxRecDepth 100000 in
theorem ge_X4_endNode_104 (n : Nat) (a0 : Nat) (a1 : Nat) (x3 : Int32) (x4 : Int32) (x5 : Int32) (x6 : Int32) (x7 : Int32) (M : Mem) : g_X4_endNode_104 n a0 a1 x3 x4 x5 x6 x7 M = T_X4_endNode_104 (fun c l M => lp (st_X4_endNode n) (c, l, M)) (fun v M => some (v, M)) none n a0 a1 x3 x4 x5 x6 x7 M := (lp_eq _ _).trans (n_X4_endNode_104 (lpK (st_X4_endNode n)) (fun c l M => some (.inl (c, l, M))) (fun v M => some (.inr (v, M))) none n a0 a1 x3 x4 x5 x6 x7 M)
noncomputable def b_X4_endNode (n : Nat) (a0 : Nat) (a1 : Nat) (x2 : Int32) (M : Mem) : Option (Unit × Mem) := g_X4_endNode_0 n a0 a1 x2 M
set_option maxHeartbeats 4000000 in
set_option maxRecDepth 100000 in
theorem sb_X4_endNode {X : Nat × (Nat → Int32)} {al : Bool} {n : Nat} {a0 : Nat} {a1 : Nat} {x2 : Int32} {M : Mem} {v : Unit} {M1 : Mem} (h : b_X4_endNode n a0 a1 x2 M = some (v, M1)) : AE yX4_endNode cX4_endNode 8 none al n X [.ref a0, .ref a1, .int x2] M none M1 := by
  refine AM.of false (by decide +kernel) (by intro h; cases h) (Nat.le_of_ble_eq_true rfl) ?_
  refine lp_snd (P := fun s r => PW_X4_endNode X al n (fun v M2 => v = none ∧ M2 = r.2) s.1 s.2.1 s.2.2) ?_ h
  clear h
  rintro ⟨c, l, M⟩ r h
  unfold st_X4_endNode at h
  rcases ite_p h with ⟨e, h⟩ | ⟨e, h⟩
  · replace e : c = 0 := e
    subst e
    obtain ⟨a0, tt0, e, h⟩ := vR_p id h
    replace e : l = _ := e
    subst e
    obtain ⟨a1, tt1, e, h⟩ := vR_p id h
    replace e : tt0 = _ := e
    subst e
    obtain ⟨x2, tt2, e, h⟩ := vI_p id h
    replace e : tt1 = _ := e
    subst e
    obtain ⟨e, h⟩ := vE_p id h
    replace e : tt2 = [] := e
    subst e
    exact w_X4_endNode_0 (J := fun c l M => PW_X4_endNode X al n (fun v M2 => v = none ∧ M2 = r.2) c l M) (R := fun v M => (v, M) = r) (fun _ _ _ h => h) (fun v M h => by cases h; exact ⟨rfl, rfl⟩) ((n_X4_endNode_0 (lpP (fun (s : Sg) (r : Unit × Mem) => PW_X4_endNode X al n (fun v M2 => v = none ∧ M2 = r.2) s.1 s.2.1 s.2.2) r) (fun c l M => some (.inl (c, l, M))) (fun v M => some (.inr (v, M))) none n a0 a1 x2 M).mp h)
  rcases ite_p h with ⟨e, h⟩ | ⟨e, h⟩
  · replace e : c = 44 := e
    subst e
    obtain ⟨a0, tt0, e, h⟩ := vR_p id h
    replace e : l = _ := e
    subst e
    obtain ⟨a1, tt1, e, h⟩ := vR_p id h
    replace e : tt0 = _ := e
    subst e
    obtain ⟨x2, tt2, e, h⟩ := vI_p id h
    replace e : tt1 = _ := e
    subst e
    obtain ⟨x3, tt3, e, h⟩ := vI_p id h
    replace e : tt2 = _ := e
    subst e
    obtain ⟨xs0, tt4, e, h⟩ := vI_p id h
    replace e : tt3 = _ := e
    subst e
    obtain ⟨e, h⟩ := vE_p id h
    replace e : tt4 = [] := e
    subst e
    exact w_X4_endNode_44 (J := fun c l M => PW_X4_endNode X al n (fun v M2 => v = none ∧ M2 = r.2) c l M) (R := fun v M => (v, M) = r) (fun _ _ _ h => h) (fun v M h => by cases h; exact ⟨rfl, rfl⟩) ((n_X4_endNode_44 (lpP (fun (s : Sg) (r : Unit × Mem) => PW_X4_endNode X al n (fun v M2 => v = none ∧ M2 = r.2) s.1 s.2.1 s.2.2) r) (fun c l M => some (.inl (c, l, M))) (fun v M => some (.inr (v, M))) none n a0 a1 x2 x3 xs0 M).mp h)
  rcases ite_p h with ⟨e, h⟩ | ⟨e, h⟩
  · replace e : c = 65 := e
    subst e
    obtain ⟨a0, tt0, e, h⟩ := vR_p id h
    replace e : l = _ := e
    subst e
    obtain ⟨a1, tt1, e, h⟩ := vR_p id h
    replace e : tt0 = _ := e
    subst e
    obtain ⟨x2, tt2, e, h⟩ := vI_p id h
    replace e : tt1 = _ := e
    subst e
    obtain ⟨x3, tt3, e, h⟩ := vI_p id h
    replace e : tt2 = _ := e
    subst e
    obtain ⟨x4, tt4, e, h⟩ := vI_p id h
    replace e : tt3 = _ := e
    subst e
    obtain ⟨e, h⟩ := vE_p id h
    replace e : tt4 = [] := e
    subst e
    exact w_X4_endNode_65 (J := fun c l M => PW_X4_endNode X al n (fun v M2 => v = none ∧ M2 = r.2) c l M) (R := fun v M => (v, M) = r) (fun _ _ _ h => h) (fun v M h => by cases h; exact ⟨rfl, rfl⟩) ((n_X4_endNode_65 (lpP (fun (s : Sg) (r : Unit × Mem) => PW_X4_endNode X al n (fun v M2 => v = none ∧ M2 = r.2) s.1 s.2.1 s.2.2) r) (fun c l M => some (.inl (c, l, M))) (fun v M => some (.inr (v, M))) none n a0 a1 x2 x3 x4 M).mp h)
  rcases ite_p h with ⟨e, h⟩ | ⟨e, h⟩
  · replace e : c = 104 := e
    subst e
    obtain ⟨a0, tt0, e, h⟩ := vR_p id h
    replace e : l = _ := e
    subst e
    obtain ⟨a1, tt1, e, h⟩ := vR_p id h
    replace e : tt0 = _ := e
    subst e
    obtain ⟨x3, tt2, e, h⟩ := vI_p id h
    replace e : tt1 = _ := e
    subst e
    obtain ⟨x4, tt3, e, h⟩ := vI_p id h
    replace e : tt2 = _ := e
    subst e
    obtain ⟨x5, tt4, e, h⟩ := vI_p id h
    replace e : tt3 = _ := e
    subst e
    obtain ⟨x6, tt5, e, h⟩ := vI_p id h
    replace e : tt4 = _ := e
    subst e
    obtain ⟨x7, tt6, e, h⟩ := vI_p id h
    replace e : tt5 = _ := e
    subst e
    obtain ⟨e, h⟩ := vE_p id h
    replace e : tt6 = [] := e
    subst e
    exact w_X4_endNode_104 (J := fun c l M => PW_X4_endNode X al n (fun v M2 => v = none ∧ M2 = r.2) c l M) (R := fun v M => (v, M) = r) (fun _ _ _ h => h) (fun v M h => by cases h; exact ⟨rfl, rfl⟩) ((n_X4_endNode_104 (lpP (fun (s : Sg) (r : Unit × Mem) => PW_X4_endNode X al n (fun v M2 => v = none ∧ M2 = r.2) s.1 s.2.1 s.2.2) r) (fun c l M => some (.inl (c, l, M))) (fun v M => some (.inr (v, M))) none n a0 a1 x3 x4 x5 x6 x7 M).mp h)
  · exact h.elim

noncomputable abbrev f_X4_endNode := b_X4_endNode
theorem s_X4_endNode {X : Nat × (Nat → Int32)} {al : Bool} {n : Nat} {a0 : Nat} {a1 : Nat} {x2 : Int32} {M : Mem} {v : Unit} {M1 : Mem} (h : f_X4_endNode n a0 a1 x2 M = some (v, M1)) : AE yX4_endNode cX4_endNode 8 none al n X [.ref a0, .ref a1, .int x2] M none M1 := sb_X4_endNode h
def ix_X4_fill (c : Nat) : List Nat := if c = 0 then [0, 1] else if c = 7 then [0, 1, 2] else if c = 41 then [0, 1, 2] else []
def PW_X4_fill (X : Nat × (Nat → Int32)) (al : Bool) (n : Nat) (Q : Option Value → Mem → Prop) (c : Nat) (l : List Value) (M : Mem) : Prop := AW X (RX4, cX4_fill, 4, none, false, al, n) 0 0 c (List.zip (ix_X4_fill c) l) (l.drop (ix_X4_fill c).length) M Q
set_option maxHeartbeats 4000000 in
set_option maxRecDepth 100000 in
noncomputable def T_X4_fill_0.{u} {α : Sort u} (J : Nat → List Value → Mem → α) (R : Unit → Mem → α) (N : α) (n : Nat) (a0 : Nat) (a1 : Nat) (M : Mem) : α := gd (fO M a0 4) N (J 7 [.ref a0, .ref a1, .int 0] (wI M a0 7 0))
set_option maxHeartbeats 4000000 in
set_option maxRecDepth 100000 in
theorem n_X4_fill_0.{u, v} {α : Sort u} {β : Sort v} (h : α → β) (J : Nat → List Value → Mem → α) (R : Unit → Mem → α) (N : α) (n : Nat) (a0 : Nat) (a1 : Nat) (M : Mem) : h (T_X4_fill_0 J R N n a0 a1 M) = T_X4_fill_0 (fun c l M => h (J c l M)) (fun v M => h (R v M)) (h N) n a0 a1 M := by
  simp only [T_X4_fill_0, nat_ite h, nat_gd h, nat_bnd h, nat_bnd2 h]
set_option maxHeartbeats 4000000 in
set_option maxRecDepth 100000 in
theorem w_X4_fill_0 {X : Nat × (Nat → Int32)} {al : Bool} {n : Nat} {Q : Option Value → Mem → Prop} {J : Nat → List Value → Mem → Prop} (hJ : ∀ c l M, J c l M → PW_X4_fill X al n Q c l M) {R : Unit → Mem → Prop} (hR : ∀ v M, R v M → Q none M) {a0 : Nat} {a1 : Nat} {M : Mem} (h : T_X4_fill_0 J R False n a0 a1 M) : AW X (RX4, cX4_fill, 4, none, false, al, n) 0 0 0 [(0, .ref a0), (1, .ref a1)] [] M Q := by
  unfold T_X4_fill_0 at h
  refine a_aload_n dX4_fill_0 rfl rfl ?_
  refine a_iconst (v := 0) dX4_fill_1 (by decide) ?_
  obtain ⟨⟨ga1, gs2⟩, h⟩ := gd_t h
  refine a_putI dX4_fill_2 (Or.inl ⟨fl_4_38, Or.inl rfl⟩) rfl ga1 gs2 rfl rfl ?_
  refine a_iconst (v := 0) dX4_fill_5 (by decide) ?_
  refine a_istore_n dX4_fill_6 rfl (Nat.le_of_ble_eq_true rfl) (lv2 := [(2, .int 0), (0, .ref a0), (1, .ref a1)]) rfl ?_
  exact a_lv (lv2 := [(0, .ref a0), (1, .ref a1), (2, .int 0)]) (fa_cons rfl (fa_cons rfl (fa_cons rfl fa_nil))) (hJ _ _ _ h)
set_option maxHeartbeats 4000000 in
set_option maxRecDepth 100000 in
noncomputable def T_X4_fill_7.{u} {α : Sort u} (J : Nat → List Value → Mem → α) (R : Unit → Mem → α) (N : α) (n : Nat) (a0 : Nat) (a1 : Nat) (x2 : Int32) (M : Mem) : α := gd (fO M a0 4) N (bnd (M.2.2.2.2 a0 0) N (fun r3 => gd (fO M r3 2) N (if (M.2.2.1 r3 3) ≤ x2 then J 41 [.ref a0, .ref a1, .int 0] M else bnd2 (cal n (fun n => f_X2_formulaOf n r3 x2 M)) N (fun v8 M9 => gd (fO M9 a0 4) N (bnd2 (cal n (fun n => f_X4_addLine n a0 0 v8 0 M9)) N (fun v15 M16 => J 7 [.ref a0, .ref a1, .int (x2 + 1)] M16))))))
set_option maxHeartbeats 4000000 in
set_option maxRecDepth 100000 in
theorem n_X4_fill_7.{u, v} {α : Sort u} {β : Sort v} (h : α → β) (J : Nat → List Value → Mem → α) (R : Unit → Mem → α) (N : α) (n : Nat) (a0 : Nat) (a1 : Nat) (x2 : Int32) (M : Mem) : h (T_X4_fill_7 J R N n a0 a1 x2 M) = T_X4_fill_7 (fun c l M => h (J c l M)) (fun v M => h (R v M)) (h N) n a0 a1 x2 M := by
  simp only [T_X4_fill_7, nat_ite h, nat_gd h, nat_bnd h, nat_bnd2 h]
set_option maxHeartbeats 4000000 in
set_option maxRecDepth 100000 in
theorem w_X4_fill_7 {X : Nat × (Nat → Int32)} {al : Bool} {n : Nat} {Q : Option Value → Mem → Prop} {J : Nat → List Value → Mem → Prop} (hJ : ∀ c l M, J c l M → PW_X4_fill X al n Q c l M) {R : Unit → Mem → Prop} (hR : ∀ v M, R v M → Q none M) {a0 : Nat} {a1 : Nat} {x2 : Int32} {M : Mem} (h : T_X4_fill_7 J R False n a0 a1 x2 M) : AW X (RX4, cX4_fill, 4, none, false, al, n) 0 0 7 [(0, .ref a0), (1, .ref a1), (2, .int x2)] [] M Q := by
  unfold T_X4_fill_7 at h
  refine a_iload_n dX4_fill_7 rfl rfl ?_
  refine a_aload_n dX4_fill_8 rfl rfl ?_
  obtain ⟨⟨ga1, gs2⟩, h⟩ := gd_t h
  obtain ⟨r3, e4, h⟩ := bnd_t h
  refine a_get (v := .ref r3) dX4_fill_9 fl_4_30 ga1 gs2 (gvR e4 rfl) ?_
  obtain ⟨⟨ga5, gs6⟩, h⟩ := gd_t h
  refine a_getN (v := .int (M.2.2.1 r3 3)) dX4_fill_12 fn_4_42 ga5 gs6 rfl ?_
  refine a_icmp_ge 39 dX4_fill_15 (by decide) (fun c7 => ?_) (fun c7 => ?_)
  · replace h := ite_t c7 h
    refine a_iconst (v := 0) dX4_fill_39 (by decide) ?_
    refine a_istore_n dX4_fill_40 rfl (Nat.le_of_ble_eq_true rfl) (lv2 := [(2, .int 0), (0, .ref a0), (1, .ref a1)]) rfl ?_
    exact a_lv (lv2 := [(0, .ref a0), (1, .ref a1), (2, .int 0)]) (fa_cons rfl (fa_cons rfl (fa_cons rfl fa_nil))) (hJ _ _ _ h)
  · replace h := ite_f c7 h
    refine a_aload_n dX4_fill_18 rfl rfl ?_
    refine a_iconst (v := 0) dX4_fill_19 (by decide) ?_
    refine a_aload_n dX4_fill_20 rfl rfl ?_
    refine a_get (v := .ref r3) dX4_fill_21 fl_4_30 ga1 gs2 (gvR e4 rfl) ?_
    refine a_iload_n dX4_fill_24 rfl rfl ?_
    obtain ⟨v8, M9, e10, h⟩ := bnd2_t h
    obtain ⟨n11, en12, e10⟩ := cal_t e10
    refine e_callV (As := [.int x2]) (st := [.int 0, .ref a0]) (a := r3) (ci := 2) false dX4_fill_25 mw_X2_formulaOf (Or.inl ⟨rfl, ml_X4_45⟩) im_X2_formulaOf se_X2_formulaOf (by decide) ga5 gs6 rfl (Nat.le_of_ble_eq_true rfl) en12 (s_X2_formulaOf e10) ?_
    refine a_iconst (v := 0) dX4_fill_28 (by decide) ?_
    obtain ⟨⟨ga13, gs14⟩, h⟩ := gd_t h
    obtain ⟨v15, M16, e17, h⟩ := bnd2_t h
    obtain ⟨n18, en19, e17⟩ := cal_t e17
    refine e_callV (As := [.int 0, .int v8, .int 0]) (st := []) (a := a0) (ci := 4) false dX4_fill_29 mw_X4_addLine (Or.inl ⟨rfl, ml_X4_49⟩) im_X4_addLine se_X4_addLine (by decide) ga13 gs14 rfl (Nat.le_of_ble_eq_true rfl) en19 (s_X4_addLine e17) ?_
    refine a_pop dX4_fill_32 rfl ?_
    refine a_iinc (v := (x2 + 1)) dX4_fill_33 rfl (by first | rfl | decide) (Nat.le_of_ble_eq_true rfl) (lv2 := [(2, .int (x2 + 1)), (0, .ref a0), (1, .ref a1)]) rfl ?_
    refine a_goto 7 dX4_fill_36 (by decide) ?_
    exact a_lv (lv2 := [(0, .ref a0), (1, .ref a1), (2, .int (x2 + 1))]) (fa_cons rfl (fa_cons rfl (fa_cons rfl fa_nil))) (hJ _ _ _ h)
set_option maxHeartbeats 4000000 in
set_option maxRecDepth 100000 in
noncomputable def T_X4_fill_41.{u} {α : Sort u} (J : Nat → List Value → Mem → α) (R : Unit → Mem → α) (N : α) (n : Nat) (a0 : Nat) (a1 : Nat) (x2 : Int32) (M : Mem) : α := gd (fO M a1 3) N (if (M.2.2.1 a1 12) ≤ x2 then R () M else bnd2 (cal n (fun n => f_X3_stop n a1 x2 M)) N (fun v4 M5 => if 0 ≤ v4 then gd (fO M5 a0 4) N (bnd2 (cal n (fun n => f_X4_endNode n a0 a1 v4 M5)) N (fun _ M12 => J 41 [.ref a0, .ref a1, .int (x2 + 1)] M12)) else gd (fO M5 a0 4) N (bnd2 (cal n (fun n => f_X4_takeOn n a0 a1 ((-1) - v4) M5)) N (fun _ M18 => J 41 [.ref a0, .ref a1, .int (x2 + 1)] M18))))
set_option maxHeartbeats 4000000 in
set_option maxRecDepth 100000 in
theorem n_X4_fill_41.{u, v} {α : Sort u} {β : Sort v} (h : α → β) (J : Nat → List Value → Mem → α) (R : Unit → Mem → α) (N : α) (n : Nat) (a0 : Nat) (a1 : Nat) (x2 : Int32) (M : Mem) : h (T_X4_fill_41 J R N n a0 a1 x2 M) = T_X4_fill_41 (fun c l M => h (J c l M)) (fun v M => h (R v M)) (h N) n a0 a1 x2 M := by
  simp only [T_X4_fill_41, nat_ite h, nat_gd h, nat_bnd h, nat_bnd2 h]
set_option maxHeartbeats 4000000 in
set_option maxRecDepth 100000 in
theorem w_X4_fill_41 {X : Nat × (Nat → Int32)} {al : Bool} {n : Nat} {Q : Option Value → Mem → Prop} {J : Nat → List Value → Mem → Prop} (hJ : ∀ c l M, J c l M → PW_X4_fill X al n Q c l M) {R : Unit → Mem → Prop} (hR : ∀ v M, R v M → Q none M) {a0 : Nat} {a1 : Nat} {x2 : Int32} {M : Mem} (h : T_X4_fill_41 J R False n a0 a1 x2 M) : AW X (RX4, cX4_fill, 4, none, false, al, n) 0 0 41 [(0, .ref a0), (1, .ref a1), (2, .int x2)] [] M Q := by
  unfold T_X4_fill_41 at h
  refine a_iload_n dX4_fill_41 rfl rfl ?_
  refine a_aload_n dX4_fill_42 rfl rfl ?_
  obtain ⟨⟨ga1, gs2⟩, h⟩ := gd_t h
  refine a_getN (v := .int (M.2.2.1 a1 12)) dX4_fill_43 fn_4_53 ga1 gs2 rfl ?_
  refine a_icmp_ge 82 dX4_fill_46 (by decide) (fun c3 => ?_) (fun c3 => ?_)
  · replace h := ite_t c3 h
    exact a_vret dX4_fill_82 rfl (hR _ _ h)
  · replace h := ite_f c3 h
    refine a_aload_n dX4_fill_49 rfl rfl ?_
    refine a_iload_n dX4_fill_50 rfl rfl ?_
    obtain ⟨v4, M5, e6, h⟩ := bnd2_t h
    obtain ⟨n7, en8, e6⟩ := cal_t e6
    refine e_callV (As := [.int x2]) (st := []) (a := a1) (ci := 3) false dX4_fill_51 mw_X3_stop (Or.inl ⟨rfl, ml_X4_58⟩) im_X3_stop se_X3_stop (by decide) ga1 gs2 rfl (Nat.le_of_ble_eq_true rfl) en8 (s_X3_stop e6) ?_
    refine a_istore_n dX4_fill_54 rfl (Nat.le_of_ble_eq_true rfl) (lv2 := [(3, .int v4), (0, .ref a0), (1, .ref a1), (2, .int x2)]) rfl ?_
    refine a_iload_n dX4_fill_55 rfl rfl ?_
    refine a_if_ge 70 dX4_fill_56 (by decide) (fun c9 => ?_) (fun c9 => ?_)
    · replace h := ite_t c9 h
      refine a_aload_n dX4_fill_70 rfl rfl ?_
      refine a_aload_n dX4_fill_71 rfl rfl ?_
      refine a_iload_n dX4_fill_72 rfl rfl ?_
      obtain ⟨⟨ga10, gs11⟩, h⟩ := gd_t h
      obtain ⟨_, M12, e13, h⟩ := bnd2_t h
      obtain ⟨n14, en15, e13⟩ := cal_t e13
      refine e_callV (As := [.ref a1, .int v4]) (st := []) (a := a0) (ci := 4) false dX4_fill_73 mw_X4_endNode (Or.inl ⟨rfl, ml_X4_65⟩) im_X4_endNode se_X4_endNode (by decide) ga10 gs11 rfl (Nat.le_of_ble_eq_true rfl) en15 (s_X4_endNode e13) ?_
      refine a_iinc (v := (x2 + 1)) dX4_fill_76 rfl (by first | rfl | decide) (Nat.le_of_ble_eq_true rfl) (lv2 := [(2, .int (x2 + 1)), (3, .int v4), (0, .ref a0), (1, .ref a1)]) rfl ?_
      refine a_goto 41 dX4_fill_79 (by decide) ?_
      exact a_lv (lv2 := [(0, .ref a0), (1, .ref a1), (2, .int (x2 + 1))]) (fa_cons rfl (fa_cons rfl (fa_cons rfl fa_nil))) (hJ _ _ _ h)
    · replace h := ite_f c9 h
      refine a_aload_n dX4_fill_59 rfl rfl ?_
      refine a_aload_n dX4_fill_60 rfl rfl ?_
      refine a_iconst (v := -1) dX4_fill_61 (by decide) ?_
      refine a_iload_n dX4_fill_62 rfl rfl ?_
      refine a_isub dX4_fill_63 ?_
      obtain ⟨⟨ga16, gs17⟩, h⟩ := gd_t h
      obtain ⟨_, M18, e19, h⟩ := bnd2_t h
      obtain ⟨n20, en21, e19⟩ := cal_t e19
      refine e_callV (As := [.ref a1, .int ((-1) - v4)]) (st := []) (a := a0) (ci := 4) false dX4_fill_64 mw_X4_takeOn (Or.inl ⟨rfl, ml_X4_61⟩) im_X4_takeOn se_X4_takeOn (by decide) ga16 gs17 rfl (Nat.le_of_ble_eq_true rfl) en21 (s_X4_takeOn e19) ?_
      refine a_goto 76 dX4_fill_67 (by decide) ?_
      refine a_iinc (v := (x2 + 1)) dX4_fill_76 rfl (by first | rfl | decide) (Nat.le_of_ble_eq_true rfl) (lv2 := [(2, .int (x2 + 1)), (3, .int v4), (0, .ref a0), (1, .ref a1)]) rfl ?_
      refine a_goto 41 dX4_fill_79 (by decide) ?_
      exact a_lv (lv2 := [(0, .ref a0), (1, .ref a1), (2, .int (x2 + 1))]) (fa_cons rfl (fa_cons rfl (fa_cons rfl fa_nil))) (hJ _ _ _ h)
set_option maxHeartbeats 4000000 in
set_option maxRecDepth 100000 in
noncomputable def st_X4_fill (n : Nat) (s : Sg) : Option (Sg ⊕ (Unit × Mem)) := if s.1 = 0 then vR s.2.1 none (fun a0 t => vR t none (fun a1 t => vE t none (T_X4_fill_0 (fun c l M => some (.inl (c, l, M))) (fun v M => some (.inr (v, M))) none n a0 a1 s.2.2))) else if s.1 = 7 then vR s.2.1 none (fun a0 t => vR t none (fun a1 t => vI t none (fun x2 t => vE t none (T_X4_fill_7 (fun c l M => some (.inl (c, l, M))) (fun v M => some (.inr (v, M))) none n a0 a1 x2 s.2.2)))) else if s.1 = 41 then vR s.2.1 none (fun a0 t => vR t none (fun a1 t => vI t none (fun x2 t => vE t none (T_X4_fill_41 (fun c l M => some (.inl (c, l, M))) (fun v M => some (.inr (v, M))) none n a0 a1 x2 s.2.2)))) else none
noncomputable abbrev g_X4_fill_0 (n : Nat) (a0 : Nat) (a1 : Nat) (M : Mem) : Option (Unit × Mem) := lp (st_X4_fill n) (0, [.ref a0, .ref a1], M)
set_option maxHeartbeats 4000000 in
set_option maxRecDepth 100000 in
theorem ge_X4_fill_0 (n : Nat) (a0 : Nat) (a1 : Nat) (M : Mem) : g_X4_fill_0 n a0 a1 M = T_X4_fill_0 (fun c l M => lp (st_X4_fill n) (c, l, M)) (fun v M => some (v, M)) none n a0 a1 M := (lp_eq _ _).trans (n_X4_fill_0 (lpK (st_X4_fill n)) (fun c l M => some (.inl (c, l, M))) (fun v M => some (.inr (v, M))) none n a0 a1 M)
noncomputable abbrev g_X4_fill_7 (n : Nat) (a0 : Nat) (a1 : Nat) (x2 : Int32) (M : Mem) : Option (Unit × Mem) := lp (st_X4_fill n) (7, [.ref a0, .ref a1, .int x2], M)
set_option maxHeartbeats 4000000 in
set_option maxRecDepth 100000 in
theorem ge_X4_fill_7 (n : Nat) (a0 : Nat) (a1 : Nat) (x2 : Int32) (M : Mem) : g_X4_fill_7 n a0 a1 x2 M = T_X4_fill_7 (fun c l M => lp (st_X4_fill n) (c, l, M)) (fun v M => some (v, M)) none n a0 a1 x2 M := (lp_eq _ _).trans (n_X4_fill_7 (lpK (st_X4_fill n)) (fun c l M => some (.inl (c, l, M))) (fun v M => some (.inr (v, M))) none n a0 a1 x2 M)
noncomputable abbrev g_X4_fill_41 (n : Nat) (a0 : Nat) (a1 : Nat) (x2 : Int32) (M : Mem) : Option (Unit × Mem) := lp (st_X4_fill n) (41, [.ref a0, .ref a1, .int x2], M)
set_option maxHeartbeats 4000000 in
set_option maxRecDepth 100000 in
theorem ge_X4_fill_41 (n : Nat) (a0 : Nat) (a1 : Nat) (x2 : Int32) (M : Mem) : g_X4_fill_41 n a0 a1 x2 M = T_X4_fill_41 (fun c l M => lp (st_X4_fill n) (c, l, M)) (fun v M => some (v, M)) none n a0 a1 x2 M := (lp_eq _ _).trans (n_X4_fill_41 (lpK (st_X4_fill n)) (fun c l M => some (.inl (c, l, M))) (fun v M => some (.inr (v, M))) none n a0 a1 x2 M)
noncomputable def b_X4_fill (n : Nat) (a0 : Nat) (a1 : Nat) (M : Mem) : Option (Unit × Mem) := g_X4_fill_0 n a0 a1 M
set_option maxHeartbeats 4000000 in
set_option maxRecDepth 100000 in
theorem sb_X4_fill {X : Nat × (Nat → Int32)} {al : Bool} {n : Nat} {a0 : Nat} {a1 : Nat} {M : Mem} {v : Unit} {M1 : Mem} (h : b_X4_fill n a0 a1 M = some (v, M1)) : AE yX4_fill cX4_fill 4 none al n X [.ref a0, .ref a1] M none M1 := by
  refine AM.of false (by decide +kernel) (by intro h; cases h) (Nat.le_of_ble_eq_true rfl) ?_
  refine lp_snd (P := fun s r => PW_X4_fill X al n (fun v M2 => v = none ∧ M2 = r.2) s.1 s.2.1 s.2.2) ?_ h
  clear h
  rintro ⟨c, l, M⟩ r h
  unfold st_X4_fill at h
  rcases ite_p h with ⟨e, h⟩ | ⟨e, h⟩
  · replace e : c = 0 := e
    subst e
    obtain ⟨a0, tt0, e, h⟩ := vR_p id h
    replace e : l = _ := e
    subst e
    obtain ⟨a1, tt1, e, h⟩ := vR_p id h
    replace e : tt0 = _ := e
    subst e
    obtain ⟨e, h⟩ := vE_p id h
    replace e : tt1 = [] := e
    subst e
    exact w_X4_fill_0 (J := fun c l M => PW_X4_fill X al n (fun v M2 => v = none ∧ M2 = r.2) c l M) (R := fun v M => (v, M) = r) (fun _ _ _ h => h) (fun v M h => by cases h; exact ⟨rfl, rfl⟩) ((n_X4_fill_0 (lpP (fun (s : Sg) (r : Unit × Mem) => PW_X4_fill X al n (fun v M2 => v = none ∧ M2 = r.2) s.1 s.2.1 s.2.2) r) (fun c l M => some (.inl (c, l, M))) (fun v M => some (.inr (v, M))) none n a0 a1 M).mp h)
  rcases ite_p h with ⟨e, h⟩ | ⟨e, h⟩
  · replace e : c = 7 := e
    subst e
    obtain ⟨a0, tt0, e, h⟩ := vR_p id h
    replace e : l = _ := e
    subst e
    obtain ⟨a1, tt1, e, h⟩ := vR_p id h
    replace e : tt0 = _ := e
    subst e
    obtain ⟨x2, tt2, e, h⟩ := vI_p id h
    replace e : tt1 = _ := e
    subst e
    obtain ⟨e, h⟩ := vE_p id h
    replace e : tt2 = [] := e
    subst e
    exact w_X4_fill_7 (J := fun c l M => PW_X4_fill X al n (fun v M2 => v = none ∧ M2 = r.2) c l M) (R := fun v M => (v, M) = r) (fun _ _ _ h => h) (fun v M h => by cases h; exact ⟨rfl, rfl⟩) ((n_X4_fill_7 (lpP (fun (s : Sg) (r : Unit × Mem) => PW_X4_fill X al n (fun v M2 => v = none ∧ M2 = r.2) s.1 s.2.1 s.2.2) r) (fun c l M => some (.inl (c, l, M))) (fun v M => some (.inr (v, M))) none n a0 a1 x2 M).mp h)
  rcases ite_p h with ⟨e, h⟩ | ⟨e, h⟩
  · replace e : c = 41 := e
    subst e
    obtain ⟨a0, tt0, e, h⟩ := vR_p id h
    replace e : l = _ := e
    subst e
    obtain ⟨a1, tt1, e, h⟩ := vR_p id h
    replace e : tt0 = _ := e
    subst e
    obtain ⟨x2, tt2, e, h⟩ := vI_p id h
    replace e : tt1 = _ := e
    subst e
    obtain ⟨e, h⟩ := vE_p id h
    replace e : tt2 = [] := e
    subst e
    exact w_X4_fill_41 (J := fun c l M => PW_X4_fill X al n (fun v M2 => v = none ∧ M2 = r.2) c l M) (R := fun v M => (v, M) = r) (fun _ _ _ h => h) (fun v M h => by cases h; exact ⟨rfl, rfl⟩) ((n_X4_fill_41 (lpP (fun (s : Sg) (r : Unit × Mem) => PW_X4_fill X al n (fun v M2 => v = none ∧ M2 = r.2) s.1 s.2.1 s.2.2) r) (fun c l M => some (.inl (c, l, M))) (fun v M => some (.inr (v, M))) none n a0 a1 x2 M).mp h)
  · exact h.elim

noncomputable abbrev f_X4_fill := b_X4_fill
theorem s_X4_fill {X : Nat × (Nat → Int32)} {al : Bool} {n : Nat} {a0 : Nat} {a1 : Nat} {M : Mem} {v : Unit} {M1 : Mem} (h : f_X4_fill n a0 a1 M = some (v, M1)) : AE yX4_fill cX4_fill 4 none al n X [.ref a0, .ref a1] M none M1 := sb_X4_fill h
