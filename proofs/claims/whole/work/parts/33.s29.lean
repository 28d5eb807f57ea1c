/-! METHODS AS FUNCTIONS, written by wip/gen/shallow.py -/
set_option maxHeartbeats 4000000 in
set_option maxRecDepth 100000 in
noncomputable def T_X10_provenBy_0.{u} {α : Sort u} (R : Int32 → Mem → α) (N : α) (n : Nat) (a0 : Nat) (x1 : Int32) (M : Mem) : α := bnd2 (cal n (fun n => f_X10_noSlot n x1 M)) N (fun v1 M2 => if v1 = 0 then gd (fO M2 a0 10) N (bnd (M2.2.2.2.2 a0 7) N (fun r9 => bnd (M2.2.2.2.2 a0 5) N (fun r11 => gd (fA M2 r11 4 x1) N (bnd (M2.2.2.2.2 r11 (x1.toNatClampNeg)) N (fun r17 => gd (fO M2 r9 3) N (bnd2 (cal n (fun n => f_X3_arrange n r9 r17 M2)) N (fun _ M21 => gd (fO M21 a0 10) N (bnd (M21.2.2.2.2 a0 7) N (fun r27 => gd (fO M21 r27 3) N (bnd2 (cal n (fun n => f_X3_ask n r27 M21)) N (fun v31 M32 => gd (fO M32 a0 10) N (bnd (M32.2.2.2.2 a0 7) N (fun r38 => gd (fO M32 r38 3) N (bnd2 (cal n (fun n => f_X3_typeOf n r38 0 M32)) N (fun v42 M43 => R v42 M43))))))))))))))) else R (-1) M2)
set_option maxHeartbeats 4000000 in
set_option maxRecDepth 100000 in
theorem n_X10_provenBy_0.{u, v} {α : Sort u} {β : Sort v} (h : α → β) (R : Int32 → Mem → α) (N : α) (n : Nat) (a0 : Nat) (x1 : Int32) (M : Mem) : h (T_X10_provenBy_0 R N n a0 x1 M) = T_X10_provenBy_0 (fun v M => h (R v M)) (h N) n a0 x1 M := by
  simp only [T_X10_provenBy_0, nat_ite h, nat_gd h, nat_bnd h, nat_bnd2 h]
set_option maxHeartbeats 4000000 in
set_option maxRecDepth 100000 in
theorem w_X10_provenBy_0 {X : Nat × (Nat → Int32)} {al : Bool} {n : Nat} {Q : Option Value → Mem → Prop} {R : Int32 → Mem → Prop} (hR : ∀ v M, R v M → Q (some (.int v)) M) {a0 : Nat} {x1 : Int32} {M : Mem} (h : T_X10_provenBy_0 R False n a0 x1 M) : AW X (RX10, cX10_provenBy, 2, (some .int), false, al, n) 0 0 0 [(0, .ref a0), (1, .int x1)] [] M Q := by
  unfold T_X10_provenBy_0 at h
  refine a_iload_n dX10_provenBy_0 rfl rfl ?_
  obtain ⟨v1, M2, e3, h⟩ := bnd2_t h
  obtain ⟨n4, en5, e3⟩ := cal_t e3
  refine e_callS (As := [.int x1]) (st := []) false dX10_provenBy_1 mw_X10_noSlot (Or.inl ⟨rfl, ml_X10_151⟩) sm_X10_noSlot rfl (Nat.le_of_ble_eq_true rfl) en5 (s_X10_noSlot e3) ?_
  refine a_if_eq 9 dX10_provenBy_4 (by decide) (fun c6 => ?_) (fun c6 => ?_)
  · replace h := ite_t c6 h
    refine a_aload_n dX10_provenBy_9 rfl rfl ?_
    obtain ⟨⟨ga7, gs8⟩, h⟩ := gd_t h
    obtain ⟨r9, e10, h⟩ := bnd_t h
    refine a_get (v := .ref r9) dX10_provenBy_10 fl_10_52 ga7 gs8 (gvR e10 rfl) ?_
    refine a_aload_n dX10_provenBy_13 rfl rfl ?_
    obtain ⟨r11, e12, h⟩ := bnd_t h
    refine a_get (v := .ref r11) dX10_provenBy_14 fl_10_38 ga7 gs8 (gvR e12 rfl) ?_
    refine a_iload_n dX10_provenBy_17 rfl rfl ?_
    obtain ⟨⟨ga13, gn14, gs15, gi16⟩, h⟩ := gd_t h
    obtain ⟨r17, e18, h⟩ := bnd_t h
    refine a_aaload dX10_provenBy_18 ga13 gs15 gi16 e18 ?_
    obtain ⟨⟨ga19, gs20⟩, h⟩ := gd_t h
    obtain ⟨_, M21, e22, h⟩ := bnd2_t h
    obtain ⟨n23, en24, e22⟩ := cal_t e22
    refine e_callV (As := [.ref r17]) (st := []) (a := r9) (ci := 3) false dX10_provenBy_19 mw_X3_arrange (Or.inl ⟨rfl, ml_X10_158⟩) im_X3_arrange se_X3_arrange (by decide) ga19 gs20 rfl (Nat.le_of_ble_eq_true rfl) en24 (s_X3_arrange e22) ?_
    refine a_aload_n dX10_provenBy_22 rfl rfl ?_
    obtain ⟨⟨ga25, gs26⟩, h⟩ := gd_t h
    obtain ⟨r27, e28, h⟩ := bnd_t h
    refine a_get (v := .ref r27) dX10_provenBy_23 fl_10_52 ga25 gs26 (gvR e28 rfl) ?_
    obtain ⟨⟨ga29, gs30⟩, h⟩ := gd_t h
    obtain ⟨v31, M32, e33, h⟩ := bnd2_t h
    obtain ⟨n34, en35, e33⟩ := cal_t e33
    refine e_callV (As := []) (st := []) (a := r27) (ci := 3) false dX10_provenBy_26 mw_X3_ask (Or.inl ⟨rfl, ml_X10_162⟩) im_X3_ask se_X3_ask (by decide) ga29 gs30 rfl (Nat.le_of_ble_eq_true rfl) en35 (s_X3_ask e33) ?_
    refine a_pop dX10_provenBy_29 rfl ?_
    refine a_aload_n dX10_provenBy_30 rfl rfl ?_
    obtain ⟨⟨ga36, gs37⟩, h⟩ := gd_t h
    obtain ⟨r38, e39, h⟩ := bnd_t h
    refine a_get (v := .ref r38) dX10_provenBy_31 fl_10_52 ga36 gs37 (gvR e39 rfl) ?_
    refine a_iconst (v := 0) dX10_provenBy_34 (by decide) ?_
    obtain ⟨⟨ga40, gs41⟩, h⟩ := gd_t h
    obtain ⟨v42, M43, e44, h⟩ := bnd2_t h
    obtain ⟨n45, en46, e44⟩ := cal_t e44
    refine e_callV (As := [.int 0]) (st := []) (a := r38) (ci := 3) false dX10_provenBy_35 mw_X3_typeOf (Or.inl ⟨rfl, ml_X10_220⟩) im_X3_typeOf se_X3_typeOf (by decide) ga40 gs41 rfl (Nat.le_of_ble_eq_true rfl) en46 (s_X3_typeOf e44) ?_
    exact a_iret dX10_provenBy_38 rfl (hR _ _ h)
  · replace h := ite_f c6 h
    refine a_iconst (v := -1) dX10_provenBy_7 (by decide) ?_
    exact a_iret dX10_provenBy_8 rfl (hR _ _ h)
noncomputable def b_X10_provenBy (n : Nat) (a0 : Nat) (x1 : Int32) (M : Mem) : Option (Int32 × Mem) := T_X10_provenBy_0 (fun v M => some (v, M)) none n a0 x1 M
set_option maxHeartbeats 4000000 in
set_option maxRecDepth 100000 in
theorem sb_X10_provenBy {X : Nat × (Nat → Int32)} {al : Bool} {n : Nat} {a0 : Nat} {x1 : Int32} {M : Mem} {v : Int32} {M1 : Mem} (h : b_X10_provenBy n a0 x1 M = some (v, M1)) : AE yX10_provenBy cX10_provenBy 2 (some .int) al n X [.ref a0, .int x1] M (some (.int v)) M1 := by
  refine AM.of false (by decide +kernel) (by intro h; cases h) (Nat.le_of_ble_eq_true rfl) ?_
  have h2 : T_X10_provenBy_0 (fun v2 M2 => some (v2, M2) = some (v, M1)) (none = some (v, M1)) n a0 x1 M := (n_X10_provenBy_0 (fun o => o = some (v, M1)) (fun v M => some (v, M)) none n a0 x1 M).mp h
  have h3 : ((none : Option (Int32 × Mem)) = some (v, M1)) = False := eq_false (by intro q; cases q)
  rw [h3] at h2
  exact w_X10_provenBy_0 (fun v2 M2 h => by cases h; exact ⟨rfl, rfl⟩) h2

noncomputable abbrev f_X10_provenBy := b_X10_provenBy
theorem s_X10_provenBy {X : Nat × (Nat → Int32)} {al : Bool} {n : Nat} {a0 : Nat} {x1 : Int32} {M : Mem} {v : Int32} {M1 : Mem} (h : f_X10_provenBy n a0 x1 M = some (v, M1)) : AE yX10_provenBy cX10_provenBy 2 (some .int) al n X [.ref a0, .int x1] M (some (.int v)) M1 := sb_X10_provenBy h
def ix_X7_replace (c : Nat) : List Nat := if c = 0 then [0, 1, 2, 3, 4] else if c = 22 then [0, 1, 2, 3, 4, 5] else []
def PW_X7_replace (X : Nat × (Nat → Int32)) (al : Bool) (n : Nat) (Q : Option Value → Mem → Prop) (c : Nat) (l : List Value) (M : Mem) : Prop := AW X (RX7, cX7_replace, 6, (some .boolean), false, al, n) 0 0 c (List.zip (ix_X7_replace c) l) (l.drop (ix_X7_replace c).length) M Q
set_option maxHeartbeats 4000000 in
set_option maxRecDepth 100000 in
noncomputable def T_X7_replace_0.{u} {α : Sort u} (J : Nat → List Value → Mem → α) (R : Int32 → Mem → α) (N : α) (n : Nat) (a0 : Nat) (a1 : Nat) (x2 : Int32) (a3 : Nat) (a4 : Nat) (M : Mem) : α := gd (fO M a0 7) N (bnd (M.2.2.2.2 a0 0) N (fun r3 => gd (fO M r3 3) N (bnd2 (cal n (fun n => f_X3_arrange n r3 a1 M)) N (fun _ M7 => gd (fO M7 a0 7) N (gd (fO M7 a4 9) N (bnd2 (cal n (fun n => f_X9_clear n a4 (wR M7 a0 2 (some a4)))) N (fun _ M15 => J 22 [.ref a0, .ref a1, .int x2, .ref a3, .ref a4, .int 0] M15)))))))
set_option maxHeartbeats 4000000 in
set_option maxRecDepth 100000 in
theorem n_X7_replace_0.{u, v} {α : Sort u} {β : Sort v} (h : α → β) (J : Nat → List Value → Mem → α) (R : Int32 → Mem → α) (N : α) (n : Nat) (a0 : Nat) (a1 : Nat) (x2 : Int32) (a3 : Nat) (a4 : Nat) (M : Mem) : h (T_X7_replace_0 J R N n a0 a1 x2 a3 a4 M) = T_X7_replace_0 (fun c l M => h (J c l M)) (fun v M => h (R v M)) (h N) n a0 a1 x2 a3 a4 M := by
  simp only [T_X7_replace_0, nat_ite h, nat_gd h, nat_bnd h, nat_bnd2 h]
set_option maxHeartbeats 4000000 in
set_option maxRecDepth 100000 in
theorem w_X7_replace_0 {X : Nat × (Nat → Int32)} {al : Bool} {n : Nat} {Q : Option Value → Mem → Prop} {J : Nat → List Value → Mem → Prop} (hJ : ∀ c l M, J c l M → PW_X7_replace X al n Q c l M) {R : Int32 → Mem → Prop} (hR : ∀ v M, R v M → Q (some (.int v)) M) {a0 : Nat} {a1 : Nat} {x2 : Int32} {a3 : Nat} {a4 : Nat} {M : Mem} (h : T_X7_replace_0 J R False n a0 a1 x2 a3 a4 M) : AW X (RX7, cX7_replace, 6, (some .boolean), false, al, n) 0 0 0 [(0, .ref a0), (1, .ref a1), (2, .int x2), (3, .ref a3), (4, .ref a4)] [] M Q := by
  unfold T_X7_replace_0 at h
  refine a_aload_n dX7_replace_0 rfl rfl ?_
  obtain ⟨⟨ga1, gs2⟩, h⟩ := gd_t h
  obtain ⟨r3, e4, h⟩ := bnd_t h
  refine a_get (v := .ref r3) dX7_replace_1 fl_7_27 ga1 gs2 (gvR e4 rfl) ?_
  refine a_aload_n dX7_replace_4 rfl rfl ?_
  obtain ⟨⟨ga5, gs6⟩, h⟩ := gd_t h
  obtain ⟨_, M7, e8, h⟩ := bnd2_t h
  obtain ⟨n9, en10, e8⟩ := cal_t e8
  refine e_callV (As := [.ref a1]) (st := []) (a := r3) (ci := 3) false dX7_replace_5 mw_X3_arrange (Or.inl ⟨rfl, ml_X7_39⟩) im_X3_arrange se_X3_arrange (by decide) ga5 gs6 rfl (Nat.le_of_ble_eq_true rfl) en10 (s_X3_arrange e8) ?_
  refine a_aload_n dX7_replace_8 rfl rfl ?_
  refine a_aload dX7_replace_9 rfl ?_
  obtain ⟨⟨ga11, gs12⟩, h⟩ := gd_t h
  refine a_putR dX7_replace_11 (Or.inl ⟨fl_7_18, Or.inl rfl⟩) rfl ga11 gs12 ?_
  refine a_aload dX7_replace_14 rfl ?_
  obtain ⟨⟨ga13, gs14⟩, h⟩ := gd_t h
  obtain ⟨_, M15, e16, h⟩ := bnd2_t h
  obtain ⟨n17, en18, e16⟩ := cal_t e16
  refine e_callV (As := []) (st := []) (a := a4) (ci := 9) false dX7_replace_16 mw_X9_clear (Or.inl ⟨rfl, ml_X7_48⟩) im_X9_clear se_X9_clear (by decide) ga13 gs14 rfl (Nat.le_of_ble_eq_true rfl) en18 (s_X9_clear e16) ?_
  refine a_iconst (v := 0) dX7_replace_19 (by decide) ?_
  refine a_istore dX7_replace_20 (Nat.le_of_ble_eq_true rfl) (lv2 := [(5, .int 0), (0, .ref a0), (1, .ref a1), (2, .int x2), (3, .ref a3), (4, .ref a4)]) rfl ?_
  exact a_lv (lv2 := [(0, .ref a0), (1, .ref a1), (2, .int x2), (3, .ref a3), (4, .ref a4), (5, .int 0)]) (fa_cons rfl (fa_cons rfl (fa_cons rfl (fa_cons rfl (fa_cons rfl (fa_cons rfl fa_nil)))))) (hJ _ _ _ h)
set_option maxHeartbeats 4000000 in
set_option maxRecDepth 100000 in
noncomputable def T_X7_replace_22.{u} {α : Sort u} (J : Nat → List Value → Mem → α) (R : Int32 → Mem → α) (N : α) (n : Nat) (a0 : Nat) (a1 : Nat) (x2 : Int32) (a3 : Nat) (a4 : Nat) (x5 : Int32) (M : Mem) : α := gd (fO M a1 9) N (if (M.2.2.1 a1 2) ≤ x5 then gd (fO M a4 9) N (if (M.2.2.1 a4 3) = 0 then R 1 M else R 0 M) else gd (fO M a4 9) N (if (M.2.2.1 a4 3) = 0 then bnd2 (cal n (fun n => f_X9_isName n a1 x5 ((-1) - x2) M)) N (fun v11 M12 => if v11 = 0 then gd (fO M12 a1 9) N (bnd2 (cal n (fun n => f_X9_opAt n a1 x5 M12)) N (fun v19 M20 => gd (fO M20 a1 9) N (bnd2 (cal n (fun n => f_X9_argAt n a1 x5 M20)) N (fun v26 M27 => gd (fO M27 a4 9) N (bnd2 (cal n (fun n => f_X9_add n a4 v19 v26 M27)) N (fun _ M33 => J 22 [.ref a0, .ref a1, .int x2, .ref a3, .ref a4, .int (x5 + 1)] M33)))))) else gd (fO M12 a3 9) N (gd (fO M12 a0 7) N (bnd (M12.2.2.2.2 a0 0) N (fun r41 => gd (fO M12 r41 3) N (bnd2 (cal n (fun n => f_X3_depthOf n r41 x5 M12)) N (fun v45 M46 => gd (fO M46 a0 7) N (bnd2 (cal n (fun n => f_X7_copyDeeper n a0 a3 0 (M12.2.2.1 a3 2) 0 v45 M46)) N (fun _ M52 => J 22 [.ref a0, .ref a1, .int x2, .ref a3, .ref a4, .int (x5 + 1)] M52)))))))) else if (M.2.2.1 a4 3) = 0 then R 1 M else R 0 M))
set_option maxHeartbeats 4000000 in
set_option maxRecDepth 100000 in
theorem n_X7_replace_22.{u, v} {α : Sort u} {β : Sort v} (h : α → β) (J : Nat → List Value → Mem → α) (R : Int32 → Mem → α) (N : α) (n : Nat) (a0 : Nat) (a1 : Nat) (x2 : Int32) (a3 : Nat) (a4 : Nat) (x5 : Int32) (M : Mem) : h (T_X7_replace_22 J R N n a0 a1 x2 a3 a4 x5 M) = T_X7_replace_22 (fun c l M => h (J c l M)) (fun v M => h (R v M)) (h N) n a0 a1 x2 a3 a4 x5 M := by
  simp only [T_X7_replace_22, nat_ite h, nat_gd h, nat_bnd h, nat_bnd2 h]
set_option maxHeartbeats 4000000 in
set_option maxRecDepth 100000 in
theorem w_X7_replace_22 {X : Nat × (Nat → Int32)} {al : Bool} {n : Nat} {Q : Option Value → Mem → Prop} {J : Nat → List Value → Mem → Prop} (hJ : ∀ c l M, J c l M → PW_X7_replace X al n Q c l M) {R : Int32 → Mem → Prop} (hR : ∀ v M, R v M → Q (some (.int v)) M) {a0 : Nat} {a1 : Nat} {x2 : Int32} {a3 : Nat} {a4 : Nat} {x5 : Int32} {M : Mem} (h : T_X7_replace_22 J R False n a0 a1 x2 a3 a4 x5 M) : AW X (RX7, cX7_replace, 6, (some .boolean), false, al, n) 0 0 22 [(0, .ref a0), (1, .ref a1), (2, .int x2), (3, .ref a3), (4, .ref a4), (5, .int x5)] [] M Q := by
  unfold T_X7_replace_22 at h
  refine a_iload dX7_replace_22 rfl ?_
  refine a_aload_n dX7_replace_24 rfl rfl ?_
  obtain ⟨⟨ga1, gs2⟩, h⟩ := gd_t h
  refine a_getN (v := .int (M.2.2.1 a1 2)) dX7_replace_25 fn_7_61 ga1 gs2 rfl ?_
  refine a_icmp_ge 97 dX7_replace_28 (by decide) (fun c3 => ?_) (fun c3 => ?_)
  · replace h := ite_t c3 h
    refine a_aload dX7_replace_97 rfl ?_
    obtain ⟨⟨ga4, gs5⟩, h⟩ := gd_t h
    refine a_getN (v := .int (M.2.2.1 a4 3)) dX7_replace_99 fn_7_65 ga4 gs5 rfl ?_
    refine a_if_ne 109 dX7_replace_102 (by decide) (fun c6 => ?_) (fun c6 => ?_)
    · replace h := ite_f c6 h
      refine a_iconst (v := 0) dX7_replace_109 (by decide) ?_
      exact a_zret dX7_replace_110 rfl rfl (hR _ _ h)
    · replace h := ite_t c6 h
      refine a_iconst (v := 1) dX7_replace_105 (by decide) ?_
      refine a_goto 110 dX7_replace_106 (by decide) ?_
      exact a_zret dX7_replace_110 rfl rfl (hR _ _ h)
  · replace h := ite_f c3 h
    refine a_aload dX7_replace_31 rfl ?_
    obtain ⟨⟨ga7, gs8⟩, h⟩ := gd_t h
    refine a_getN (v := .int (M.2.2.1 a4 3)) dX7_replace_33 fn_7_65 ga7 gs8 rfl ?_
    refine a_if_ne 97 dX7_replace_36 (by decide) (fun c9 => ?_) (fun c9 => ?_)
    · replace h := ite_f c9 h
      refine a_aload dX7_replace_97 rfl ?_
      refine a_getN (v := .int (M.2.2.1 a4 3)) dX7_replace_99 fn_7_65 ga7 gs8 rfl ?_
      refine a_if_ne 109 dX7_replace_102 (by decide) (fun c10 => ?_) (fun c10 => ?_)
      · replace h := ite_f c10 h
        refine a_iconst (v := 0) dX7_replace_109 (by decide) ?_
        exact a_zret dX7_replace_110 rfl rfl (hR _ _ h)
      · replace h := ite_t c10 h
        refine a_iconst (v := 1) dX7_replace_105 (by decide) ?_
        refine a_goto 110 dX7_replace_106 (by decide) ?_
        exact a_zret dX7_replace_110 rfl rfl (hR _ _ h)
    · replace h := ite_t c9 h
      refine a_aload_n dX7_replace_39 rfl rfl ?_
      refine a_iload dX7_replace_40 rfl ?_
      refine a_iconst (v := -1) dX7_replace_42 (by decide) ?_
      refine a_iload_n dX7_replace_43 rfl rfl ?_
      refine a_isub dX7_replace_44 ?_
      obtain ⟨v11, M12, e13, h⟩ := bnd2_t h
      obtain ⟨n14, en15, e13⟩ := cal_t e13
      refine e_callV (As := [.int x5, .int ((-1) - x2)]) (st := []) (a := a1) (ci := 9) false dX7_replace_45 mw_X9_isName (Or.inl ⟨rfl, ml_X7_96⟩) im_X9_isName se_X9_isName (by decide) ga1 gs2 rfl (Nat.le_of_ble_eq_true rfl) en15 (s_X9_isName e13) ?_
      refine a_if_eq 74 dX7_replace_48 (by decide) (fun c16 => ?_) (fun c16 => ?_)
      · replace h := ite_t c16 h
        refine a_aload dX7_replace_74 rfl ?_
        refine a_aload_n dX7_replace_76 rfl rfl ?_
        refine a_iload dX7_replace_77 rfl ?_
        obtain ⟨⟨ga17, gs18⟩, h⟩ := gd_t h
        obtain ⟨v19, M20, e21, h⟩ := bnd2_t h
        obtain ⟨n22, en23, e21⟩ := cal_t e21
        refine e_callV (As := [.int x5]) (st := [.ref a4]) (a := a1) (ci := 9) false dX7_replace_79 mw_X9_opAt (Or.inl ⟨rfl, ml_X7_90⟩) im_X9_opAt se_X9_opAt (by decide) ga17 gs18 rfl (Nat.le_of_ble_eq_true rfl) en23 (s_X9_opAt e21) ?_
        refine a_aload_n dX7_replace_82 rfl rfl ?_
        refine a_iload dX7_replace_83 rfl ?_
        obtain ⟨⟨ga24, gs25⟩, h⟩ := gd_t h
        obtain ⟨v26, M27, e28, h⟩ := bnd2_t h
        obtain ⟨n29, en30, e28⟩ := cal_t e28
        refine e_callV (As := [.int x5]) (st := [.int v19, .ref a4]) (a := a1) (ci := 9) false dX7_replace_85 mw_X9_argAt (Or.inl ⟨rfl, ml_X7_87⟩) im_X9_argAt se_X9_argAt (by decide) ga24 gs25 rfl (Nat.le_of_ble_eq_true rfl) en30 (s_X9_argAt e28) ?_
        obtain ⟨⟨ga31, gs32⟩, h⟩ := gd_t h
        obtain ⟨_, M33, e34, h⟩ := bnd2_t h
        obtain ⟨n35, en36, e34⟩ := cal_t e34
        refine e_callV (As := [.int v19, .int v26]) (st := []) (a := a4) (ci := 9) false dX7_replace_88 mw_X9_add (Or.inl ⟨rfl, ml_X7_80⟩) im_X9_add se_X9_add (by decide) ga31 gs32 rfl (Nat.le_of_ble_eq_true rfl) en36 (s_X9_add e34) ?_
        refine a_iinc (v := (x5 + 1)) dX7_replace_91 rfl (by first | rfl | decide) (Nat.le_of_ble_eq_true rfl) (lv2 := [(5, .int (x5 + 1)), (0, .ref a0), (1, .ref a1), (2, .int x2), (3, .ref a3), (4, .ref a4)]) rfl ?_
        refine a_goto 22 dX7_replace_94 (by decide) ?_
        exact a_lv (lv2 := [(0, .ref a0), (1, .ref a1), (2, .int x2), (3, .ref a3), (4, .ref a4), (5, .int (x5 + 1))]) (fa_cons rfl (fa_cons rfl (fa_cons rfl (fa_cons rfl (fa_cons rfl (fa_cons rfl fa_nil)))))) (hJ _ _ _ h)
      · replace h := ite_f c16 h
        refine a_aload_n dX7_replace_51 rfl rfl ?_
        refine a_aload_n dX7_replace_52 rfl rfl ?_
        refine a_iconst (v := 0) dX7_replace_53 (by decide) ?_
        refine a_aload_n dX7_replace_54 rfl rfl ?_
        obtain ⟨⟨ga37, gs38⟩, h⟩ := gd_t h
        refine a_getN (v := .int (M12.2.2.1 a3 2)) dX7_replace_55 fn_7_61 ga37 gs38 rfl ?_
        refine a_iconst (v := 0) dX7_replace_58 (by decide) ?_
        refine a_aload_n dX7_replace_59 rfl rfl ?_
        obtain ⟨⟨ga39, gs40⟩, h⟩ := gd_t h
        obtain ⟨r41, e42, h⟩ := bnd_t h
        refine a_get (v := .ref r41) dX7_replace_60 fl_7_27 ga39 gs40 (gvR e42 rfl) ?_
        refine a_iload dX7_replace_63 rfl ?_
        obtain ⟨⟨ga43, gs44⟩, h⟩ := gd_t h
        obtain ⟨v45, M46, e47, h⟩ := bnd2_t h
        obtain ⟨n48, en49, e47⟩ := cal_t e47
        refine e_callV (As := [.int x5]) (st := [.int 0, .int (M12.2.2.1 a3 2), .int 0, .ref a3, .ref a0]) (a := r41) (ci := 3) false dX7_replace_65 mw_X3_depthOf (Or.inl ⟨rfl, ml_X7_93⟩) im_X3_depthOf se_X3_depthOf (by decide) ga43 gs44 rfl (Nat.le_of_ble_eq_true rfl) en49 (s_X3_depthOf e47) ?_
        obtain ⟨⟨ga50, gs51⟩, h⟩ := gd_t h
        obtain ⟨_, M52, e53, h⟩ := bnd2_t h
        obtain ⟨n54, en55, e53⟩ := cal_t e53
        refine e_callV (As := [.ref a3, .int 0, .int (M12.2.2.1 a3 2), .int 0, .int v45]) (st := []) (a := a0) (ci := 7) false dX7_replace_68 mw_X7_copyDeeper (Or.inl ⟨rfl, ml_X7_83⟩) im_X7_copyDeeper se_X7_copyDeeper (by decide) ga50 gs51 rfl (Nat.le_of_ble_eq_true rfl) en55 (s_X7_copyDeeper e53) ?_
        refine a_goto 91 dX7_replace_71 (by decide) ?_
        refine a_iinc (v := (x5 + 1)) dX7_replace_91 rfl (by first | rfl | decide) (Nat.le_of_ble_eq_true rfl) (lv2 := [(5, .int (x5 + 1)), (0, .ref a0), (1, .ref a1), (2, .int x2), (3, .ref a3), (4, .ref a4)]) rfl ?_
        refine a_goto 22 dX7_replace_94 (by decide) ?_
        exact a_lv (lv2 := [(0, .ref a0), (1, .ref a1), (2, .int x2), (3, .ref a3), (4, .ref a4), (5, .int (x5 + 1))]) (fa_cons rfl (fa_cons rfl (fa_cons rfl (fa_cons rfl (fa_cons rfl (fa_cons rfl fa_nil)))))) (hJ _ _ _ h)
set_option maxHeartbeats 4000000 in
set_option maxRecDepth 100000 in
noncomputable def st_X7_replace (n : Nat) (s : Sg) : Option (Sg ⊕ (Int32 × Mem)) := if s.1 = 0 then vR s.2.1 none (fun a0 t => vR t none (fun a1 t => vI t none (fun x2 t => vR t none (fun a3 t => vR t none (fun a4 t => vE t none (T_X7_replace_0 (fun c l M => some (.inl (c, l, M))) (fun v M => some (.inr (v, M))) none n a0 a1 x2 a3 a4 s.2.2)))))) else if s.1 = 22 then vR s.2.1 none (fun a0 t => vR t none (fun a1 t => vI t none (fun x2 t => vR t none (fun a3 t => vR t none (fun a4 t => vI t none (fun x5 t => vE t none (T_X7_replace_22 (fun c l M => some (.inl (c, l, M))) (fun v M => some (.inr (v, M))) none n a0 a1 x2 a3 a4 x5 s.2.2))))))) else none
noncomputable abbrev g_X7_replace_0 (n : Nat) (a0 : Nat) (a1 : Nat) (x2 : Int32) (a3 : Nat) (a4 : Nat) (M : Mem) : Option (Int32 × Mem) := lp (st_X7_replace n) (0, [.ref a0, .ref a1, .int x2, .ref a3, .ref a4], M)
set_option maxHeartbeats 4000000 in
set_option maxRecDepth 100000 in
theorem ge_X7_replace_0 (n : Nat) (a0 : Nat) (a1 : Nat) (x2 : Int32) (a3 : Nat) (a4 : Nat) (M : Mem) : g_X7_replace_0 n a0 a1 x2 a3 a4 M = T_X7_replace_0 (fun c l M => lp (st_X7_replace n) (c, l, M)) (fun v M => some (v, M)) none n a0 a1 x2 a3 a4 M := (lp_eq _ _).trans (n_X7_replace_0 (lpK (st_X7_replace n)) (fun c l M => some (.inl (c, l, M))) (fun v M => some (.inr (v, M))) none n a0 a1 x2 a3 a4 M)
noncomputable abbrev g_X7_replace_22 (n : Nat) (a0 : Nat) (a1 : Nat) (x2 : Int32) (a3 : Nat) (a4 : Nat) (x5 : Int32) (M : Mem) : Option (Int32 × Mem) := lp (st_X7_replace n) (22, [.ref a0, .ref a1, .int x2, .ref a3, .ref a4, .int x5], M)
set_option maxHeartbeats 4000000 in
set_option maxRecDepth 100000 in
theorem ge_X7_replace_22 (n : Nat) (a0 : Nat) (a1 : Nat) (x2 : Int32) (a3 : Nat) (a4 : Nat) (x5 : Int32) (M : Mem) : g_X7_replace_22 n a0 a1 x2 a3 a4 x5 M = T_X7_replace_22 (fun c l M => lp (st_X7_replace n) (c, l, M)) (fun v M => some (v, M)) none n a0 a1 x2 a3 a4 x5 M := (lp_eq _ _).trans (n_X7_replace_22 (lpK (st_X7_replace n)) (fun c l M => some (.inl (c, l, M))) (fun v M => some (.inr (v, M))) none n a0 a1 x2 a3 a4 x5 M)
noncomputable def b_X7_replace (n : Nat) (a0 : Nat) (a1 : Nat) (x2 : Int32) (a3 : Nat) (a4 : Nat) (M : Mem) : Option (Int32 × Mem) := g_X7_replace_0 n a0 a1 x2 a3 a4 M
set_option maxHeartbeats 4000000 in
set_option maxRecDepth 100000 in
theorem sb_X7_replace {X : Nat × (Nat → Int32)} {al : Bool} {n : Nat} {a0 : Nat} {a1 : Nat} {x2 : Int32} {a3 : Nat} {a4 : Nat} {M : Mem} {v : Int32} {M1 : Mem} (h : b_X7_replace n a0 a1 x2 a3 a4 M = some (v, M1)) : AE yX7_replace cX7_replace 6 (some .boolean) al n X [.ref a0, .ref a1, .int x2, .ref a3, .ref a4] M (some (.int v)) M1 := by
  refine AM.of false (by decide +kernel) (by intro h; cases h) (Nat.le_of_ble_eq_true rfl) ?_
  refine lp_snd (P := fun s r => PW_X7_replace X al n (fun v M2 => v = (some (.int r.1)) ∧ M2 = r.2) s.1 s.2.1 s.2.2) ?_ h
  clear h
  rintro ⟨c, l, M⟩ r h
  unfold st_X7_replace at h
  rcases ite_p h with ⟨e, h⟩ | ⟨e, h⟩
  · replace e : c = 0 := e
    subst e
    obtain ⟨a0, tt0, e, h⟩ := vR_p id h
    replace e : l = _ := e
    subst e
    obtain ⟨a1, tt1, e, h⟩ := vR_p id h
    replace e : tt0 = _ := e
    subst e
    obtain ⟨x2, tt2, e, h⟩ := vI_p id h
    replace e : tt1 = _ := e
    subst e
    obtain ⟨a3, tt3, e, h⟩ := vR_p id h
    replace e : tt2 = _ := e
    subst e
    obtain ⟨a4, tt4, e, h⟩ := vR_p id h
    replace e : tt3 = _ := e
    subst e
    obtain ⟨e, h⟩ := vE_p id h
    replace e : tt4 = [] := e
    subst e
    exact w_X7_replace_0 (J := fun c l M => PW_X7_replace X al n (fun v M2 => v = (some (.int r.1)) ∧ M2 = r.2) c l M) (R := fun v M => (v, M) = r) (fun _ _ _ h => h) (fun v M h => by cases h; exact ⟨rfl, rfl⟩) ((n_X7_replace_0 (lpP (fun (s : Sg) (r : Int32 × Mem) => PW_X7_replace X al n (fun v M2 => v = (some (.int r.1)) ∧ M2 = r.2) s.1 s.2.1 s.2.2) r) (fun c l M => some (.inl (c, l, M))) (fun v M => some (.inr (v, M))) none n a0 a1 x2 a3 a4 M).mp h)
  rcases ite_p h with ⟨e, h⟩ | ⟨e, h⟩
  · replace e : c = 22 := e
    subst e
    obtain ⟨a0, tt0, e, h⟩ := vR_p id h
    replace e : l = _ := e
    subst e
    obtain ⟨a1, tt1, e, h⟩ := vR_p id h
    replace e : tt0 = _ := e
    subst e
    obtain ⟨x2, tt2, e, h⟩ := vI_p id h
    replace e : tt1 = _ := e
    subst e
    obtain ⟨a3, tt3, e, h⟩ := vR_p id h
    replace e : tt2 = _ := e
    subst e
    obtain ⟨a4, tt4, e, h⟩ := vR_p id h
    replace e : tt3 = _ := e
    subst e
    obtain ⟨x5, tt5, e, h⟩ := vI_p id h
    replace e : tt4 = _ := e
    subst e
    obtain ⟨e, h⟩ := vE_p id h
    replace e : tt5 = [] := e
    subst e
    exact w_X7_replace_22 (J := fun c l M => PW_X7_replace X al n (fun v M2 => v = (some (.int r.1)) ∧ M2 = r.2) c l M) (R := fun v M => (v, M) = r) (fun _ _ _ h => h) (fun v M h => by cases h; exact ⟨rfl, rfl⟩) ((n_X7_replace_22 (lpP (fun (s : Sg) (r : Int32 × Mem) => PW_X7_replace X al n (fun v M2 => v = (some (.int r.1)) ∧ M2 = r.2) s.1 s.2.1 s.2.2) r) (fun c l M => some (.inl (c, l, M))) (fun v M => some (.inr (v, M))) none n a0 a1 x2 a3 a4 x5 M).mp h)
  · exact h.elim

noncomputable abbrev f_X7_replace := b_X7_replace
theorem s_X7_replace {X : Nat × (Nat → Int32)} {al : Bool} {n : Nat} {a0 : Nat} {a1 : Nat} {x2 : Int32} {a3 : Nat} {a4 : Nat} {M : Mem} {v : Int32} {M1 : Mem} (h : f_X7_replace n a0 a1 x2 a3 a4 M = some (v, M1)) : AE yX7_replace cX7_replace 6 (some .boolean) al n X [.ref a0, .ref a1, .int x2, .ref a3, .ref a4] M (some (.int v)) M1 := sb_X7_replace h
set_option maxHeartbeats 4000000 in
set_option maxRecDepth 100000 in
noncomputable def T_X10_cut_0.{u} {α : Sort u} (R : Int32 → Mem → α) (N : α) (n : Nat) (a0 : Nat) (x1 : Int32) (x2 : Int32) (x3 : Int32) (x4 : Int32) (M : Mem) : α := bnd2 (cal n (fun n => f_X10_noSlot n x1 M)) N (fun v1 M2 => if v1 = 0 then bnd2 (cal n (fun n => f_X10_noSlot n x3 M2)) N (fun v7 M8 => if v7 = 0 then bnd2 (cal n (fun n => f_X10_noSlot n x4 M8)) N (fun v13 M14 => if v13 = 0 then if x2 < 0 then R (-2) M14 else gd (fO M14 a0 10) N (bnd (M14.2.2.2.2 a0 3) N (fun r22 => gd (fO M14 r22 2) N (if x2 < (M14.2.2.1 r22 3) then bnd (M14.2.2.2.2 a0 5) N (fun r27 => gd (fA M14 r27 4 x1) N (bnd (M14.2.2.2.2 r27 (x1.toNatClampNeg)) N (fun r33 => gd (fO M14 r33 9) N (if (M14.2.2.1 r33 2) = 0 then R (-5) M14 else gd (fA M14 r27 4 x3) N (bnd (M14.2.2.2.2 r27 (x3.toNatClampNeg)) N (fun r42 => gd (fO M14 r42 9) N (if (M14.2.2.1 r42 2) = 0 then R (-5) M14 else bnd2 (cal n (fun n => f_X10_provenBy n a0 x3 M14)) N (fun v47 M48 => gd (fO M48 a0 10) N (bnd (M48.2.2.2.2 a0 3) N (fun r54 => gd (fO M48 r54 2) N (bnd2 (cal n (fun n => f_X2_formulaOf n r54 x2 M48)) N (fun v58 M59 => if v47 = v58 then gd (fO M59 a0 10) N (bnd (M59.2.2.2.2 a0 8) N (fun r66 => bnd (M59.2.2.2.2 a0 5) N (fun r68 => gd (fA M59 r68 4 x1) N (bnd (M59.2.2.2.2 r68 (x1.toNatClampNeg)) N (fun r74 => gd (fA M59 r68 4 x3) N (bnd (M59.2.2.2.2 r68 (x3.toNatClampNeg)) N (fun r80 => bnd (M59.2.2.2.2 a0 6) N (fun r82 => gd (fO M59 r66 7) N (bnd2 (cal n (fun n => f_X7_replace n r66 r74 x2 r80 r82 M59)) N (fun v86 M87 => if v86 = 0 then R (-4) M87 else gd (fO M87 a0 10) N (bnd (M87.2.2.2.2 a0 5) N (fun r94 => gd (fA M87 r94 4 x4) N (bnd (M87.2.2.2.2 r94 (x4.toNatClampNeg)) N (fun r100 => bnd (M87.2.2.2.2 a0 6) N (fun r102 => gd (fO M87 r100 9) N (bnd2 (cal n (fun n => f_X9_takeOver n r100 r102 M87)) N (fun _ M106 => gd (fO M106 a0 10) N (bnd (M106.2.2.2.2 a0 6) N (fun r112 => gd (fO M106 r112 9) N (R (M106.2.2.1 r112 2) M106)))))))))))))))))))) else R (-5) M59)))))))))))) else R (-2) M14))) else R (-2) M14) else R (-2) M8) else R (-2) M2)
set_option maxHeartbeats 4000000 in
set_option maxRecDepth 100000 in
theorem n_X10_cut_0.{u, v} {α : Sort u} {β : Sort v} (h : α → β) (R : Int32 → Mem → α) (N : α) (n : Nat) (a0 : Nat) (x1 : Int32) (x2 : Int32) (x3 : Int32) (x4 : Int32) (M : Mem) : h (T_X10_cut_0 R N n a0 x1 x2 x3 x4 M) = T_X10_cut_0 (fun v M => h (R v M)) (h N) n a0 x1 x2 x3 x4 M := by
  simp only [T_X10_cut_0, nat_ite h, nat_gd h, nat_bnd h, nat_bnd2 h]
set_option maxHeartbeats 4000000 in
set_option maxRecDepth 100000 in
theorem w_X10_cut_0 {X : Nat × (Nat → Int32)} {al : Bool} {n : Nat} {Q : Option Value → Mem → Prop} {R : Int32 → Mem → Prop} (hR : ∀ v M, R v M → Q (some (.int v)) M) {a0 : Nat} {x1 : Int32} {x2 : Int32} {x3 : Int32} {x4 : Int32} {M : Mem} (h : T_X10_cut_0 R False n a0 x1 x2 x3 x4 M) : AW X (RX10, cX10_cut, 5, (some .int), false, al, n) 0 0 0 [(0, .ref a0), (1, .int x1), (2, .int x2), (3, .int x3), (4, .int x4)] [] M Q := by
  unfold T_X10_cut_0 at h
  refine a_iload_n dX10_cut_0 rfl rfl ?_
  obtain ⟨v1, M2, e3, h⟩ := bnd2_t h
  obtain ⟨n4, en5, e3⟩ := cal_t e3
  refine e_callS (As := [.int x1]) (st := []) false dX10_cut_1 mw_X10_noSlot (Or.inl ⟨rfl, ml_X10_151⟩) sm_X10_noSlot rfl (Nat.le_of_ble_eq_true rfl) en5 (s_X10_noSlot e3) ?_
  refine a_if_ne 37 dX10_cut_4 (by decide) (fun c6 => ?_) (fun c6 => ?_)
  · replace h := ite_f c6 h
    refine a_bipush (v := -2) dX10_cut_37 (by decide) ?_
    exact a_iret dX10_cut_39 rfl (hR _ _ h)
  · replace h := ite_t c6 h
    refine a_iload_n dX10_cut_7 rfl rfl ?_
    obtain ⟨v7, M8, e9, h⟩ := bnd2_t h
    obtain ⟨n10, en11, e9⟩ := cal_t e9
    refine e_callS (As := [.int x3]) (st := []) false dX10_cut_8 mw_X10_noSlot (Or.inl ⟨rfl, ml_X10_151⟩) sm_X10_noSlot rfl (Nat.le_of_ble_eq_true rfl) en11 (s_X10_noSlot e9) ?_
    refine a_if_ne 37 dX10_cut_11 (by decide) (fun c12 => ?_) (fun c12 => ?_)
    · replace h := ite_f c12 h
      refine a_bipush (v := -2) dX10_cut_37 (by decide) ?_
      exact a_iret dX10_cut_39 rfl (hR _ _ h)
    · replace h := ite_t c12 h
      refine a_iload dX10_cut_14 rfl ?_
      obtain ⟨v13, M14, e15, h⟩ := bnd2_t h
      obtain ⟨n16, en17, e15⟩ := cal_t e15
      refine e_callS (As := [.int x4]) (st := []) false dX10_cut_16 mw_X10_noSlot (Or.inl ⟨rfl, ml_X10_151⟩) sm_X10_noSlot rfl (Nat.le_of_ble_eq_true rfl) en17 (s_X10_noSlot e15) ?_
      refine a_if_ne 37 dX10_cut_19 (by decide) (fun c18 => ?_) (fun c18 => ?_)
      · replace h := ite_f c18 h
        refine a_bipush (v := -2) dX10_cut_37 (by decide) ?_
        exact a_iret dX10_cut_39 rfl (hR _ _ h)
      · replace h := ite_t c18 h
        refine a_iload_n dX10_cut_22 rfl rfl ?_
        refine a_if_lt 37 dX10_cut_23 (by decide) (fun c19 => ?_) (fun c19 => ?_)
        · replace h := ite_t c19 h
          refine a_bipush (v := -2) dX10_cut_37 (by decide) ?_
          exact a_iret dX10_cut_39 rfl (hR _ _ h)
        · replace h := ite_f c19 h
          refine a_iload_n dX10_cut_26 rfl rfl ?_
          refine a_aload_n dX10_cut_27 rfl rfl ?_
          obtain ⟨⟨ga20, gs21⟩, h⟩ := gd_t h
          obtain ⟨r22, e23, h⟩ := bnd_t h
          refine a_get (v := .ref r22) dX10_cut_28 fl_10_23 ga20 gs21 (gvR e23 rfl) ?_
          obtain ⟨⟨ga24, gs25⟩, h⟩ := gd_t h
          refine a_getN (v := .int (M14.2.2.1 r22 3)) dX10_cut_31 fn_10_138 ga24 gs25 rfl ?_
          refine a_icmp_lt 40 dX10_cut_34 (by decide) (fun c26 => ?_) (fun c26 => ?_)
          · replace h := ite_t c26 h
            refine a_aload_n dX10_cut_40 rfl rfl ?_
            obtain ⟨r27, e28, h⟩ := bnd_t h
            refine a_get (v := .ref r27) dX10_cut_41 fl_10_38 ga20 gs21 (gvR e28 rfl) ?_
            refine a_iload_n dX10_cut_44 rfl rfl ?_
            obtain ⟨⟨ga29, gn30, gs31, gi32⟩, h⟩ := gd_t h
            obtain ⟨r33, e34, h⟩ := bnd_t h
            refine a_aaload dX10_cut_45 ga29 gs31 gi32 e34 ?_
            obtain ⟨⟨ga35, gs36⟩, h⟩ := gd_t h
            refine a_getN (v := .int (M14.2.2.1 r33 2)) dX10_cut_46 fn_10_171 ga35 gs36 rfl ?_
            refine a_if_eq 80 dX10_cut_49 (by decide) (fun c37 => ?_) (fun c37 => ?_)
            · replace h := ite_t c37 h
              refine a_bipush (v := -5) dX10_cut_80 (by decide) ?_
              exact a_iret dX10_cut_82 rfl (hR _ _ h)
            · replace h := ite_f c37 h
              refine a_aload_n dX10_cut_52 rfl rfl ?_
              refine a_get (v := .ref r27) dX10_cut_53 fl_10_38 ga20 gs21 (gvR e28 rfl) ?_
              refine a_iload_n dX10_cut_56 rfl rfl ?_
              obtain ⟨⟨ga38, gn39, gs40, gi41⟩, h⟩ := gd_t h
              obtain ⟨r42, e43, h⟩ := bnd_t h
              refine a_aaload dX10_cut_57 ga38 gs40 gi41 e43 ?_
              obtain ⟨⟨ga44, gs45⟩, h⟩ := gd_t h
              refine a_getN (v := .int (M14.2.2.1 r42 2)) dX10_cut_58 fn_10_171 ga44 gs45 rfl ?_
              refine a_if_eq 80 dX10_cut_61 (by decide) (fun c46 => ?_) (fun c46 => ?_)
              · replace h := ite_t c46 h
                refine a_bipush (v := -5) dX10_cut_80 (by decide) ?_
                exact a_iret dX10_cut_82 rfl (hR _ _ h)
              · replace h := ite_f c46 h
                refine a_aload_n dX10_cut_64 rfl rfl ?_
                refine a_iload_n dX10_cut_65 rfl rfl ?_
                obtain ⟨v47, M48, e49, h⟩ := bnd2_t h
                obtain ⟨n50, en51, e49⟩ := cal_t e49
                refine e_callV (As := [.int x3]) (st := []) (a := a0) (ci := 10) false dX10_cut_66 mw_X10_provenBy (Or.inl ⟨rfl, ml_X10_275⟩) im_X10_provenBy se_X10_provenBy (by decide) ga20 gs21 rfl (Nat.le_of_ble_eq_true rfl) en51 (s_X10_provenBy e49) ?_
                refine a_aload_n dX10_cut_69 rfl rfl ?_
                obtain ⟨⟨ga52, gs53⟩, h⟩ := gd_t h
                obtain ⟨r54, e55, h⟩ := bnd_t h
                refine a_get (v := .ref r54) dX10_cut_70 fl_10_23 ga52 gs53 (gvR e55 rfl) ?_
                refine a_iload_n dX10_cut_73 rfl rfl ?_
                obtain ⟨⟨ga56, gs57⟩, h⟩ := gd_t h
                obtain ⟨v58, M59, e60, h⟩ := bnd2_t h
                obtain ⟨n61, en62, e60⟩ := cal_t e60
                refine e_callV (As := [.int x2]) (st := [.int v47]) (a := r54) (ci := 2) false dX10_cut_74 mw_X2_formulaOf (Or.inl ⟨rfl, ml_X10_190⟩) im_X2_formulaOf se_X2_formulaOf (by decide) ga56 gs57 rfl (Nat.le_of_ble_eq_true rfl) en62 (s_X2_formulaOf e60) ?_
                refine a_icmp_eq 83 dX10_cut_77 (by decide) (fun c63 => ?_) (fun c63 => ?_)
                · replace h := ite_t c63 h
                  refine a_aload_n dX10_cut_83 rfl rfl ?_
                  obtain ⟨⟨ga64, gs65⟩, h⟩ := gd_t h
                  obtain ⟨r66, e67, h⟩ := bnd_t h
                  refine a_get (v := .ref r66) dX10_cut_84 fl_10_61 ga64 gs65 (gvR e67 rfl) ?_
                  refine a_aload_n dX10_cut_87 rfl rfl ?_
                  obtain ⟨r68, e69, h⟩ := bnd_t h
                  refine a_get (v := .ref r68) dX10_cut_88 fl_10_38 ga64 gs65 (gvR e69 rfl) ?_
                  refine a_iload_n dX10_cut_91 rfl rfl ?_
                  obtain ⟨⟨ga70, gn71, gs72, gi73⟩, h⟩ := gd_t h
                  obtain ⟨r74, e75, h⟩ := bnd_t h
                  refine a_aaload dX10_cut_92 ga70 gs72 gi73 e75 ?_
                  refine a_iload_n dX10_cut_93 rfl rfl ?_
                  refine a_aload_n dX10_cut_94 rfl rfl ?_
                  refine a_get (v := .ref r68) dX10_cut_95 fl_10_38 ga64 gs65 (gvR e69 rfl) ?_
                  refine a_iload_n dX10_cut_98 rfl rfl ?_
                  obtain ⟨⟨ga76, gn77, gs78, gi79⟩, h⟩ := gd_t h
                  obtain ⟨r80, e81, h⟩ := bnd_t h
                  refine a_aaload dX10_cut_99 ga76 gs78 gi79 e81 ?_
                  refine a_aload_n dX10_cut_100 rfl rfl ?_
                  obtain ⟨r82, e83, h⟩ := bnd_t h
                  refine a_get (v := .ref r82) dX10_cut_101 fl_10_43 ga64 gs65 (gvR e83 rfl) ?_
                  obtain ⟨⟨ga84, gs85⟩, h⟩ := gd_t h
                  obtain ⟨v86, M87, e88, h⟩ := bnd2_t h
                  obtain ⟨n89, en90, e88⟩ := cal_t e88
                  refine e_callV (As := [.ref r74, .int x2, .ref r80, .ref r82]) (st := []) (a := r66) (ci := 7) false dX10_cut_104 mw_X7_replace (Or.inl ⟨rfl, ml_X10_278⟩) im_X7_replace se_X7_replace (by decide) ga84 gs85 rfl (Nat.le_of_ble_eq_true rfl) en90 (s_X7_replace e88) ?_
                  refine a_if_ne 113 dX10_cut_107 (by decide) (fun c91 => ?_) (fun c91 => ?_)
                  · replace h := ite_f c91 h
                    refine a_aload_n dX10_cut_113 rfl rfl ?_
                    obtain ⟨⟨ga92, gs93⟩, h⟩ := gd_t h
                    obtain ⟨r94, e95, h⟩ := bnd_t h
                    refine a_get (v := .ref r94) dX10_cut_114 fl_10_38 ga92 gs93 (gvR e95 rfl) ?_
                    refine a_iload dX10_cut_117 rfl ?_
                    obtain ⟨⟨ga96, gn97, gs98, gi99⟩, h⟩ := gd_t h
                    obtain ⟨r100, e101, h⟩ := bnd_t h
                    refine a_aaload dX10_cut_119 ga96 gs98 gi99 e101 ?_
                    refine a_aload_n dX10_cut_120 rfl rfl ?_
                    obtain ⟨r102, e103, h⟩ := bnd_t h
                    refine a_get (v := .ref r102) dX10_cut_121 fl_10_43 ga92 gs93 (gvR e103 rfl) ?_
                    obtain ⟨⟨ga104, gs105⟩, h⟩ := gd_t h
                    obtain ⟨_, M106, e107, h⟩ := bnd2_t h
                    obtain ⟨n108, en109, e107⟩ := cal_t e107
                    refine e_callV (As := [.ref r102]) (st := []) (a := r100) (ci := 9) false dX10_cut_124 mw_X9_takeOver (Or.inl ⟨rfl, ml_X10_169⟩) im_X9_takeOver se_X9_takeOver (by decide) ga104 gs105 rfl (Nat.le_of_ble_eq_true rfl) en109 (s_X9_takeOver e107) ?_
                    refine a_aload_n dX10_cut_127 rfl rfl ?_
                    obtain ⟨⟨ga110, gs111⟩, h⟩ := gd_t h
                    obtain ⟨r112, e113, h⟩ := bnd_t h
                    refine a_get (v := .ref r112) dX10_cut_128 fl_10_43 ga110 gs111 (gvR e113 rfl) ?_
                    obtain ⟨⟨ga114, gs115⟩, h⟩ := gd_t h
                    refine a_getN (v := .int (M106.2.2.1 r112 2)) dX10_cut_131 fn_10_171 ga114 gs115 rfl ?_
                    exact a_iret dX10_cut_134 rfl (hR _ _ h)
                  · replace h := ite_t c91 h
                    refine a_bipush (v := -4) dX10_cut_110 (by decide) ?_
                    exact a_iret dX10_cut_112 rfl (hR _ _ h)
                · replace h := ite_f c63 h
                  refine a_bipush (v := -5) dX10_cut_80 (by decide) ?_
                  exact a_iret dX10_cut_82 rfl (hR _ _ h)
          · replace h := ite_f c26 h
            refine a_bipush (v := -2) dX10_cut_37 (by decide) ?_
            exact a_iret dX10_cut_39 rfl (hR _ _ h)
noncomputable def b_X10_cut (n : Nat) (a0 : Nat) (x1 : Int32) (x2 : Int32) (x3 : Int32) (x4 : Int32) (M : Mem) : Option (Int32 × Mem) := T_X10_cut_0 (fun v M => some (v, M)) none n a0 x1 x2 x3 x4 M
set_option maxHeartbeats 4000000 in
set_option maxRecDepth 100000 in
theorem sb_X10_cut {X : Nat × (Nat → Int32)} {al : Bool} {n : Nat} {a0 : Nat} {x1 : Int32} {x2 : Int32} {x3 : Int32} {x4 : Int32} {M : Mem} {v : Int32} {M1 : Mem} (h : b_X10_cut n a0 x1 x2 x3 x4 M = some (v, M1)) : AE yX10_cut cX10_cut 5 (some .int) al n X [.ref a0, .int x1, .int x2, .int x3, .int x4] M (some (.int v)) M1 := by
  refine AM.of false (by decide +kernel) (by intro h; cases h) (Nat.le_of_ble_eq_true rfl) ?_
  have h2 : T_X10_cut_0 (fun v2 M2 => some (v2, M2) = some (v, M1)) (none = some (v, M1)) n a0 x1 x2 x3 x4 M := (n_X10_cut_0 (fun o => o = some (v, M1)) (fun v M => some (v, M)) none n a0 x1 x2 x3 x4 M).mp h
  have h3 : ((none : Option (Int32 × Mem)) = some (v, M1)) = False := eq_false (by intro q; cases q)
  rw [h3] at h2
  exact w_X10_cut_0 (fun v2 M2 h => by cases h; exact ⟨rfl, rfl⟩) h2

noncomputable abbrev f_X10_cut := b_X10_cut
theorem s_X10_cut {X : Nat × (Nat → Int32)} {al : Bool} {n : Nat} {a0 : Nat} {x1 : Int32} {x2 : Int32} {x3 : Int32} {x4 : Int32} {M : Mem} {v : Int32} {M1 : Mem} (h : f_X10_cut n a0 x1 x2 x3 x4 M = some (v, M1)) : AE yX10_cut cX10_cut 5 (some .int) al n X [.ref a0, .int x1, .int x2, .int x3, .int x4] M (some (.int v)) M1 := sb_X10_cut h
def ix_X11_cut (c : Nat) : List Nat := if c = 0 then [0, 1, 2, 3, 4] else if c = 106 then [0, 2, 3, 4, 6, 7] else if c = 180 then [0, 2, 3, 4, 7] else if c = 212 then [0, 2, 3, 4, 7] else if c = 236 then [0, 2, 3, 4, 7, 8] else if c = 288 then [0, 2, 3, 4, 7, 8, 9] else []
def PW_X11_cut (X : Nat × (Nat → Int32)) (al : Bool) (n : Nat) (Q : Option Value → Mem → Prop) (c : Nat) (l : List Value) (M : Mem) : Prop := AW X (RX11, cX11_cut, 11, (some .int), false, al, n) 0 0 c (List.zip (ix_X11_cut c) l) (l.drop (ix_X11_cut c).length) M Q
set_option maxHeartbeats 4000000 in
set_option maxRecDepth 100000 in
noncomputable def T_X11_cut_0.{u} {α : Sort u} (J : Nat → List Value → Mem → α) (R : Int32 → Mem → α) (N : α) (n : Nat) (a0 : Nat) (x1 : Int32) (x2 : Int32) (x3 : Int32) (x4 : Int32) (M : Mem) : α := gd (fO M a0 11) N (bnd2 (cal n (fun n => f_X11_isSlot n x1 (wI M a0 0 0))) N (fun v3 M4 => if v3 = 0 then R (-2) M4 else gd (fO M4 a0 11) N (bnd2 (cal n (fun n => f_X11_isIn n (Int32.toInt64 x2) 0 (Int32.toInt64 ((M4.2.2.1 a0 15) - 1)) M4)) N (fun v11 M12 => if v11 = 0 then R (-2) M12 else bnd2 (cal n (fun n => f_X11_isSlot n x3 M12)) N (fun v17 M18 => if v17 = 0 then R (-2) M18 else bnd2 (cal n (fun n => f_X11_isSlot n x4 M18)) N (fun v23 M24 => if v23 = 0 then R (-2) M24 else gd (fO M24 a0 11) N (bnd2 (cal n (fun n => f_X11_isEmpty n a0 x1 M24)) N (fun v31 M32 => if v31 = 0 then gd (fO M32 a0 11) N (bnd2 (cal n (fun n => f_X11_isEmpty n a0 x3 M32)) N (fun v39 M40 => if v39 = 0 then gd (fO M40 a0 11) N (bnd2 (cal n (fun n => f_X11_takes n a0 x3 M40)) N (fun _ M47 => gd (fO M47 a0 11) N (bnd2 (cal n (fun n => f_X11_asked n a0 M47)) N (fun v53 M54 => gd (fO M54 a0 11) N (bnd (M54.2.2.2.2 a0 11) N (fun r60 => gd (fA M54 r60 1 x2) N (if v53 = (M54.2.2.1 r60 (x2.toNatClampNeg)) then bnd2 (cal n (fun n => f_X11_takes n a0 x1 M54)) N (fun _ M67 => gd (fO M67 a0 11) N (bnd2 (cal n (fun n => f_X11_asked n a0 M67)) N (fun v73 M74 => gd (fO M74 a0 11) N (J 106 [.ref a0, .int x2, .int x3, .int x4, .int (M74.2.2.1 a0 24), .int 0] M74)))) else R (-5) M54))))))) else R (-5) M40)) else R (-5) M32))))))))
set_option maxHeartbeats 4000000 in
set_option maxRecDepth 100000 in
theorem n_X11_cut_0.{u, v} {α : Sort u} {β : Sort v} (h : α → β) (J : Nat → List Value → Mem → α) (R : Int32 → Mem → α) (N : α) (n : Nat) (a0 : Nat) (x1 : Int32) (x2 : Int32) (x3 : Int32) (x4 : Int32) (M : Mem) : h (T_X11_cut_0 J R N n a0 x1 x2 x3 x4 M) = T_X11_cut_0 (fun c l M => h (J c l M)) (fun v M => h (R v M)) (h N) n a0 x1 x2 x3 x4 M := by
  simp only [T_X11_cut_0, nat_ite h, nat_gd h, nat_bnd h, nat_bnd2 h]
set_option maxHeartbeats 4000000 in
set_option maxRecDepth 100000 in
theorem w_X11_cut_0 {X : Nat × (Nat → Int32)} {al : Bool} {n : Nat} {Q : Option Value → Mem → Prop} {J : Nat → List Value → Mem → Prop} (hJ : ∀ c l M, J c l M → PW_X11_cut X al n Q c l M) {R : Int32 → Mem → Prop} (hR : ∀ v M, R v M → Q (some (.int v)) M) {a0 : Nat} {x1 : Int32} {x2 : Int32} {x3 : Int32} {x4 : Int32} {M : Mem} (h : T_X11_cut_0 J R False n a0 x1 x2 x3 x4 M) : AW X (RX11, cX11_cut, 11, (some .int), false, al, n) 0 0 0 [(0, .ref a0), (1, .int x1), (2, .int x2), (3, .int x3), (4, .int x4)] [] M Q := by
  unfold T_X11_cut_0 at h
  refine a_aload_n dX11_cut_0 rfl rfl ?_
  refine a_iconst (v := 0) dX11_cut_1 (by decide) ?_
  obtain ⟨⟨ga1, gs2⟩, h⟩ := gd_t h
  refine a_putI dX11_cut_2 (Or.inl ⟨fl_11_1, Or.inl rfl⟩) rfl ga1 gs2 rfl rfl ?_
  refine a_iload_n dX11_cut_5 rfl rfl ?_
  obtain ⟨v3, M4, e5, h⟩ := bnd2_t h
  obtain ⟨n6, en7, e5⟩ := cal_t e5
  refine e_callS (As := [.int x1]) (st := []) false dX11_cut_6 mw_X11_isSlot (Or.inl ⟨rfl, ml_X11_271⟩) sm_X11_isSlot rfl (Nat.le_of_ble_eq_true rfl) en7 (s_X11_isSlot e5) ?_
  refine a_if_eq 43 dX11_cut_9 (by decide) (fun c8 => ?_) (fun c8 => ?_)
  · replace h := ite_t c8 h
    refine a_bipush (v := -2) dX11_cut_43 (by decide) ?_
    exact a_iret dX11_cut_45 rfl (hR _ _ h)
  · replace h := ite_f c8 h
    refine a_iload_n dX11_cut_12 rfl rfl ?_
    refine a_i2l dX11_cut_13 ?_
    refine a_lconst (v := 0) dX11_cut_14 (by decide) ?_
    refine a_aload_n dX11_cut_15 rfl rfl ?_
    obtain ⟨⟨ga9, gs10⟩, h⟩ := gd_t h
    refine a_get (v := .int (M4.2.2.1 a0 15)) dX11_cut_16 fl_11_144 ga9 gs10 rfl ?_
    refine a_iconst (v := 1) dX11_cut_19 (by decide) ?_
    refine a_isub dX11_cut_20 ?_
    refine a_i2l dX11_cut_21 ?_
    obtain ⟨v11, M12, e13, h⟩ := bnd2_t h
    obtain ⟨n14, en15, e13⟩ := cal_t e13
    refine e_callS (As := [.long (Int32.toInt64 x2), .long 0, .long (Int32.toInt64 ((M4.2.2.1 a0 15) - 1))]) (st := []) false dX11_cut_22 mw_X11_isIn (Or.inl ⟨rfl, ml_X11_180⟩) sm_X11_isIn rfl (Nat.le_of_ble_eq_true rfl) en15 (s_X11_isIn e13) ?_
    refine a_if_eq 43 dX11_cut_25 (by decide) (fun c16 => ?_) (fun c16 => ?_)
    · replace h := ite_t c16 h
      refine a_bipush (v := -2) dX11_cut_43 (by decide) ?_
      exact a_iret dX11_cut_45 rfl (hR _ _ h)
    · replace h := ite_f c16 h
      refine a_iload_n dX11_cut_28 rfl rfl ?_
      obtain ⟨v17, M18, e19, h⟩ := bnd2_t h
      obtain ⟨n20, en21, e19⟩ := cal_t e19
      refine e_callS (As := [.int x3]) (st := []) false dX11_cut_29 mw_X11_isSlot (Or.inl ⟨rfl, ml_X11_271⟩) sm_X11_isSlot rfl (Nat.le_of_ble_eq_true rfl) en21 (s_X11_isSlot e19) ?_
      refine a_if_eq 43 dX11_cut_32 (by decide) (fun c22 => ?_) (fun c22 => ?_)
      · replace h := ite_t c22 h
        refine a_bipush (v := -2) dX11_cut_43 (by decide) ?_
        exact a_iret dX11_cut_45 rfl (hR _ _ h)
      · replace h := ite_f c22 h
        refine a_iload dX11_cut_35 rfl ?_
        obtain ⟨v23, M24, e25, h⟩ := bnd2_t h
        obtain ⟨n26, en27, e25⟩ := cal_t e25
        refine e_callS (As := [.int x4]) (st := []) false dX11_cut_37 mw_X11_isSlot (Or.inl ⟨rfl, ml_X11_271⟩) sm_X11_isSlot rfl (Nat.le_of_ble_eq_true rfl) en27 (s_X11_isSlot e25) ?_
        refine a_if_ne 46 dX11_cut_40 (by decide) (fun c28 => ?_) (fun c28 => ?_)
        · replace h := ite_f c28 h
          refine a_aload_n dX11_cut_46 rfl rfl ?_
          refine a_iload_n dX11_cut_47 rfl rfl ?_
          obtain ⟨⟨ga29, gs30⟩, h⟩ := gd_t h
          obtain ⟨v31, M32, e33, h⟩ := bnd2_t h
          obtain ⟨n34, en35, e33⟩ := cal_t e33
          refine e_callV (As := [.int x1]) (st := []) (a := a0) (ci := 11) false dX11_cut_48 mw_X11_isEmpty (Or.inl ⟨rfl, ml_X11_343⟩) im_X11_isEmpty se_X11_isEmpty (by decide) ga29 gs30 rfl (Nat.le_of_ble_eq_true rfl) en35 (s_X11_isEmpty e33) ?_
          refine a_if_ne 62 dX11_cut_51 (by decide) (fun c36 => ?_) (fun c36 => ?_)
          · replace h := ite_f c36 h
            refine a_bipush (v := -5) dX11_cut_62 (by decide) ?_
            exact a_iret dX11_cut_64 rfl (hR _ _ h)
          · replace h := ite_t c36 h
            refine a_aload_n dX11_cut_54 rfl rfl ?_
            refine a_iload_n dX11_cut_55 rfl rfl ?_
            obtain ⟨⟨ga37, gs38⟩, h⟩ := gd_t h
            obtain ⟨v39, M40, e41, h⟩ := bnd2_t h
            obtain ⟨n42, en43, e41⟩ := cal_t e41
            refine e_callV (As := [.int x3]) (st := []) (a := a0) (ci := 11) false dX11_cut_56 mw_X11_isEmpty (Or.inl ⟨rfl, ml_X11_343⟩) im_X11_isEmpty se_X11_isEmpty (by decide) ga37 gs38 rfl (Nat.le_of_ble_eq_true rfl) en43 (s_X11_isEmpty e41) ?_
            refine a_if_eq 65 dX11_cut_59 (by decide) (fun c44 => ?_) (fun c44 => ?_)
            · replace h := ite_t c44 h
              refine a_aload_n dX11_cut_65 rfl rfl ?_
              refine a_iload_n dX11_cut_66 rfl rfl ?_
              obtain ⟨⟨ga45, gs46⟩, h⟩ := gd_t h
              obtain ⟨_, M47, e48, h⟩ := bnd2_t h
              obtain ⟨n49, en50, e48⟩ := cal_t e48
              refine e_callV (As := [.int x3]) (st := []) (a := a0) (ci := 11) false dX11_cut_67 mw_X11_takes (Or.inl ⟨rfl, ml_X11_346⟩) im_X11_takes se_X11_takes (by decide) ga45 gs46 rfl (Nat.le_of_ble_eq_true rfl) en50 (s_X11_takes e48) ?_
              refine a_aload_n dX11_cut_70 rfl rfl ?_
              obtain ⟨⟨ga51, gs52⟩, h⟩ := gd_t h
              obtain ⟨v53, M54, e55, h⟩ := bnd2_t h
              obtain ⟨n56, en57, e55⟩ := cal_t e55
              refine e_callV (As := []) (st := []) (a := a0) (ci := 11) false dX11_cut_71 mw_X11_asked (Or.inl ⟨rfl, ml_X11_331⟩) im_X11_asked se_X11_asked (by decide) ga51 gs52 rfl (Nat.le_of_ble_eq_true rfl) en57 (s_X11_asked e55) ?_
              refine a_aload_n dX11_cut_74 rfl rfl ?_
              obtain ⟨⟨ga58, gs59⟩, h⟩ := gd_t h
              obtain ⟨r60, e61, h⟩ := bnd_t h
              refine a_get (v := .ref r60) dX11_cut_75 fl_11_38 ga58 gs59 (gvR e61 rfl) ?_
              refine a_iload_n dX11_cut_78 rfl rfl ?_
              obtain ⟨⟨ga62, gn63, gs64, gi65⟩, h⟩ := gd_t h
              refine a_iaload dX11_cut_79 ga62 gs64 gi65 ?_
              refine a_icmp_eq 86 dX11_cut_80 (by decide) (fun c66 => ?_) (fun c66 => ?_)
              · replace h := ite_t c66 h
                refine a_aload_n dX11_cut_86 rfl rfl ?_
                refine a_iload_n dX11_cut_87 rfl rfl ?_
                obtain ⟨_, M67, e68, h⟩ := bnd2_t h
                obtain ⟨n69, en70, e68⟩ := cal_t e68
                refine e_callV (As := [.int x1]) (st := []) (a := a0) (ci := 11) false dX11_cut_88 mw_X11_takes (Or.inl ⟨rfl, ml_X11_346⟩) im_X11_takes se_X11_takes (by decide) ga58 gs59 rfl (Nat.le_of_ble_eq_true rfl) en70 (s_X11_takes e68) ?_
                refine a_aload_n dX11_cut_91 rfl rfl ?_
                obtain ⟨⟨ga71, gs72⟩, h⟩ := gd_t h
                obtain ⟨v73, M74, e75, h⟩ := bnd2_t h
                obtain ⟨n76, en77, e75⟩ := cal_t e75
                refine e_callV (As := []) (st := []) (a := a0) (ci := 11) false dX11_cut_92 mw_X11_asked (Or.inl ⟨rfl, ml_X11_331⟩) im_X11_asked se_X11_asked (by decide) ga71 gs72 rfl (Nat.le_of_ble_eq_true rfl) en77 (s_X11_asked e75) ?_
                refine a_istore dX11_cut_95 (Nat.le_of_ble_eq_true rfl) (lv2 := [(5, .int v73), (0, .ref a0), (1, .int x1), (2, .int x2), (3, .int x3), (4, .int x4)]) rfl ?_
                refine a_aload_n dX11_cut_97 rfl rfl ?_
                obtain ⟨⟨ga78, gs79⟩, h⟩ := gd_t h
                refine a_get (v := .int (M74.2.2.1 a0 24)) dX11_cut_98 fl_11_151 ga78 gs79 rfl ?_
                refine a_istore dX11_cut_101 (Nat.le_of_ble_eq_true rfl) (lv2 := [(6, .int (M74.2.2.1 a0 24)), (5, .int v73), (0, .ref a0), (1, .int x1), (2, .int x2), (3, .int x3), (4, .int x4)]) rfl ?_
                refine a_iconst (v := 0) dX11_cut_103 (by decide) ?_
                refine a_istore dX11_cut_104 (Nat.le_of_ble_eq_true rfl) (lv2 := [(7, .int 0), (6, .int (M74.2.2.1 a0 24)), (5, .int v73), (0, .ref a0), (1, .int x1), (2, .int x2), (3, .int x3), (4, .int x4)]) rfl ?_
                exact a_lv (lv2 := [(0, .ref a0), (2, .int x2), (3, .int x3), (4, .int x4), (6, .int (M74.2.2.1 a0 24)), (7, .int 0)]) (fa_cons rfl (fa_cons rfl (fa_cons rfl (fa_cons rfl (fa_cons rfl (fa_cons rfl fa_nil)))))) (hJ _ _ _ h)
              · replace h := ite_f c66 h
                refine a_bipush (v := -5) dX11_cut_83 (by decide) ?_
                exact a_iret dX11_cut_85 rfl (hR _ _ h)
            · replace h := ite_f c44 h
              refine a_bipush (v := -5) dX11_cut_62 (by decide) ?_
              exact a_iret dX11_cut_64 rfl (hR _ _ h)
        · replace h := ite_t c28 h
          refine a_bipush (v := -2) dX11_cut_43 (by decide) ?_
          exact a_iret dX11_cut_45 rfl (hR _ _ h)
set_option maxHeartbeats 4000000 in
set_option maxRecDepth 100000 in
noncomputable def T_X11_cut_106.{u} {α : Sort u} (J : Nat → List Value → Mem → α) (R : Int32 → Mem → α) (N : α) (n : Nat) (a0 : Nat) (x2 : Int32) (x3 : Int32) (x4 : Int32) (x6 : Int32) (x7 : Int32) (M : Mem) : α := gd (fO M a0 11) N (if (M.2.2.1 a0 24) ≤ x7 then if x6 ≤ 200 then J 180 [.ref a0, .int x2, .int x3, .int x4, .int 0] (wI M a0 25 0) else R (-4) M else bnd (M.2.2.2.2 a0 20) N (fun r5 => gd (fA M r5 1 x7) N (if (M.2.2.1 r5 (x7.toNatClampNeg)) = 0 then bnd (M.2.2.2.2 a0 21) N (fun r12 => gd (fA M r12 1 x7) N (if (M.2.2.1 r12 (x7.toNatClampNeg)) = ((-1) - x2) then bnd (M.2.2.2.2 a0 19) N (fun r19 => gd (fA M r19 1 x3) N (J 106 [.ref a0, .int x2, .int x3, .int x4, .int (x6 + ((M.2.2.1 r19 (x3.toNatClampNeg)) - 1)), .int (x7 + 1)] M)) else J 106 [.ref a0, .int x2, .int x3, .int x4, .int (x6 + 0), .int (x7 + 1)] M)) else J 106 [.ref a0, .int x2, .int x3, .int x4, .int (x6 + 0), .int (x7 + 1)] M)))
set_option maxHeartbeats 4000000 in
set_option maxRecDepth 100000 in
theorem n_X11_cut_106.{u, v} {α : Sort u} {β : Sort v} (h : α → β) (J : Nat → List Value → Mem → α) (R : Int32 → Mem → α) (N : α) (n : Nat) (a0 : Nat) (x2 : Int32) (x3 : Int32) (x4 : Int32) (x6 : Int32) (x7 : Int32) (M : Mem) : h (T_X11_cut_106 J R N n a0 x2 x3 x4 x6 x7 M) = T_X11_cut_106 (fun c l M => h (J c l M)) (fun v M => h (R v M)) (h N) n a0 x2 x3 x4 x6 x7 M := by
  simp only [T_X11_cut_106, nat_ite h, nat_gd h, nat_bnd h, nat_bnd2 h]
set_option maxHeartbeats 4000000 in
set_option maxRecDepth 100000 in
theorem w_X11_cut_106 {X : Nat × (Nat → Int32)} {al : Bool} {n : Nat} {Q : Option Value → Mem → Prop} {J : Nat → List Value → Mem → Prop} (hJ : ∀ c l M, J c l M → PW_X11_cut X al n Q c l M) {R : Int32 → Mem → Prop} (hR : ∀ v M, R v M → Q (some (.int v)) M) {a0 : Nat} {x2 : Int32} {x3 : Int32} {x4 : Int32} {x6 : Int32} {x7 : Int32} {M : Mem} (h : T_X11_cut_106 J R False n a0 x2 x3 x4 x6 x7 M) : AW X (RX11, cX11_cut, 11, (some .int), false, al, n) 0 0 106 [(0, .ref a0), (2, .int x2), (3, .int x3), (4, .int x4), (6, .int x6), (7, .int x7)] [] M Q := by
  unfold T_X11_cut_106 at h
  refine a_iload dX11_cut_106 rfl ?_
  refine a_aload_n dX11_cut_108 rfl rfl ?_
  obtain ⟨⟨ga1, gs2⟩, h⟩ := gd_t h
  refine a_get (v := .int (M.2.2.1 a0 24)) dX11_cut_109 fl_11_151 ga1 gs2 rfl ?_
  refine a_icmp_ge 161 dX11_cut_112 (by decide) (fun c3 => ?_) (fun c3 => ?_)
  · replace h := ite_t c3 h
    refine a_iload dX11_cut_161 rfl ?_
    refine a_sipush (v := 200) dX11_cut_163 (by decide) ?_
    refine a_icmp_le 172 dX11_cut_166 (by decide) (fun c4 => ?_) (fun c4 => ?_)
    · replace h := ite_t c4 h
      refine a_aload_n dX11_cut_172 rfl rfl ?_
      refine a_iconst (v := 0) dX11_cut_173 (by decide) ?_
      refine a_putI dX11_cut_174 (Or.inl ⟨fl_11_303, Or.inl rfl⟩) rfl ga1 gs2 rfl rfl ?_
      refine a_iconst (v := 0) dX11_cut_177 (by decide) ?_
      refine a_istore dX11_cut_178 (Nat.le_of_ble_eq_true rfl) (lv2 := [(7, .int 0), (0, .ref a0), (2, .int x2), (3, .int x3), (4, .int x4), (6, .int x6)]) rfl ?_
      exact a_lv (lv2 := [(0, .ref a0), (2, .int x2), (3, .int x3), (4, .int x4), (7, .int 0)]) (fa_cons rfl (fa_cons rfl (fa_cons rfl (fa_cons rfl (fa_cons rfl fa_nil))))) (hJ _ _ _ h)
    · replace h := ite_f c4 h
      refine a_bipush (v := -4) dX11_cut_169 (by decide) ?_
      exact a_iret dX11_cut_171 rfl (hR _ _ h)
  · replace h := ite_f c3 h
    refine a_iload dX11_cut_115 rfl ?_
    refine a_aload_n dX11_cut_117 rfl rfl ?_
    obtain ⟨r5, e6, h⟩ := bnd_t h
    refine a_get (v := .ref r5) dX11_cut_118 fl_11_59 ga1 gs2 (gvR e6 rfl) ?_
    refine a_iload dX11_cut_121 rfl ?_
    obtain ⟨⟨ga7, gn8, gs9, gi10⟩, h⟩ := gd_t h
    refine a_iaload dX11_cut_123 ga7 gs9 gi10 ?_
    refine a_if_ne 151 dX11_cut_124 (by decide) (fun c11 => ?_) (fun c11 => ?_)
    · replace h := ite_f c11 h
      refine a_iconst (v := 0) dX11_cut_151 (by decide) ?_
      refine a_iadd dX11_cut_152 ?_
      refine a_istore dX11_cut_153 (Nat.le_of_ble_eq_true rfl) (lv2 := [(6, .int (x6 + 0)), (0, .ref a0), (2, .int x2), (3, .int x3), (4, .int x4), (7, .int x7)]) rfl ?_
      refine a_iinc (v := (x7 + 1)) dX11_cut_155 rfl (by first | rfl | decide) (Nat.le_of_ble_eq_true rfl) (lv2 := [(7, .int (x7 + 1)), (6, .int (x6 + 0)), (0, .ref a0), (2, .int x2), (3, .int x3), (4, .int x4)]) rfl ?_
      refine a_goto 106 dX11_cut_158 (by decide) ?_
      exact a_lv (lv2 := [(0, .ref a0), (2, .int x2), (3, .int x3), (4, .int x4), (6, .int (x6 + 0)), (7, .int (x7 + 1))]) (fa_cons rfl (fa_cons rfl (fa_cons rfl (fa_cons rfl (fa_cons rfl (fa_cons rfl fa_nil)))))) (hJ _ _ _ h)
    · replace h := ite_t c11 h
      refine a_aload_n dX11_cut_127 rfl rfl ?_
      obtain ⟨r12, e13, h⟩ := bnd_t h
      refine a_get (v := .ref r12) dX11_cut_128 fl_11_62 ga1 gs2 (gvR e13 rfl) ?_
      refine a_iload dX11_cut_131 rfl ?_
      obtain ⟨⟨ga14, gn15, gs16, gi17⟩, h⟩ := gd_t h
      refine a_iaload dX11_cut_133 ga14 gs16 gi17 ?_
      refine a_iconst (v := -1) dX11_cut_134 (by decide) ?_
      refine a_iload_n dX11_cut_135 rfl rfl ?_
      refine a_isub dX11_cut_136 ?_
      refine a_icmp_ne 151 dX11_cut_137 (by decide) (fun c18 => ?_) (fun c18 => ?_)
      · replace h := ite_f c18 h
        refine a_iconst (v := 0) dX11_cut_151 (by decide) ?_
        refine a_iadd dX11_cut_152 ?_
        refine a_istore dX11_cut_153 (Nat.le_of_ble_eq_true rfl) (lv2 := [(6, .int (x6 + 0)), (0, .ref a0), (2, .int x2), (3, .int x3), (4, .int x4), (7, .int x7)]) rfl ?_
        refine a_iinc (v := (x7 + 1)) dX11_cut_155 rfl (by first | rfl | decide) (Nat.le_of_ble_eq_true rfl) (lv2 := [(7, .int (x7 + 1)), (6, .int (x6 + 0)), (0, .ref a0), (2, .int x2), (3, .int x3), (4, .int x4)]) rfl ?_
        refine a_goto 106 dX11_cut_158 (by decide) ?_
        exact a_lv (lv2 := [(0, .ref a0), (2, .int x2), (3, .int x3), (4, .int x4), (6, .int (x6 + 0)), (7, .int (x7 + 1))]) (fa_cons rfl (fa_cons rfl (fa_cons rfl (fa_cons rfl (fa_cons rfl (fa_cons rfl fa_nil)))))) (hJ _ _ _ h)
      · replace h := ite_t c18 h
        refine a_aload_n dX11_cut_140 rfl rfl ?_
        obtain ⟨r19, e20, h⟩ := bnd_t h
        refine a_get (v := .ref r19) dX11_cut_141 fl_11_56 ga1 gs2 (gvR e20 rfl) ?_
        refine a_iload_n dX11_cut_144 rfl rfl ?_
        obtain ⟨⟨ga21, gn22, gs23, gi24⟩, h⟩ := gd_t h
        refine a_iaload dX11_cut_145 ga21 gs23 gi24 ?_
        refine a_iconst (v := 1) dX11_cut_146 (by decide) ?_
        refine a_isub dX11_cut_147 ?_
        refine a_goto 152 dX11_cut_148 (by decide) ?_
        refine a_iadd dX11_cut_152 ?_
        refine a_istore dX11_cut_153 (Nat.le_of_ble_eq_true rfl) (lv2 := [(6, .int (x6 + ((M.2.2.1 r19 (x3.toNatClampNeg)) - 1))), (0, .ref a0), (2, .int x2), (3, .int x3), (4, .int x4), (7, .int x7)]) rfl ?_
        refine a_iinc (v := (x7 + 1)) dX11_cut_155 rfl (by first | rfl | decide) (Nat.le_of_ble_eq_true rfl) (lv2 := [(7, .int (x7 + 1)), (6, .int (x6 + ((M.2.2.1 r19 (x3.toNatClampNeg)) - 1))), (0, .ref a0), (2, .int x2), (3, .int x3), (4, .int x4)]) rfl ?_
        refine a_goto 106 dX11_cut_158 (by decide) ?_
        exact a_lv (lv2 := [(0, .ref a0), (2, .int x2), (3, .int x3), (4, .int x4), (6, .int (x6 + ((M.2.2.1 r19 (x3.toNatClampNeg)) - 1))), (7, .int (x7 + 1))]) (fa_cons rfl (fa_cons rfl (fa_cons rfl (fa_cons rfl (fa_cons rfl (fa_cons rfl fa_nil)))))) (hJ _ _ _ h)
set_option maxHeartbeats 4000000 in
set_option maxRecDepth 100000 in
noncomputable def T_X11_cut_180.{u} {α : Sort u} (J : Nat → List Value → Mem → α) (R : Int32 → Mem → α) (N : α) (n : Nat) (a0 : Nat) (x2 : Int32) (x3 : Int32) (x4 : Int32) (x7 : Int32) (M : Mem) : α := gd (fO M a0 11) N (if (M.2.2.1 a0 24) ≤ x7 then bnd2 (cal n (fun n => f_X11_turns n a0 M)) N (fun _ M4 => gd (fO M4 a0 11) N (bnd2 (cal n (fun n => f_X11_stores n a0 x4 M4)) N (fun _ M10 => gd (fO M10 a0 11) N (R (M10.2.2.1 a0 24) M10)))) else bnd (M.2.2.2.2 a0 20) N (fun r16 => gd (fA M r16 1 x7) N (if (M.2.2.1 r16 (x7.toNatClampNeg)) = 0 then bnd (M.2.2.2.2 a0 21) N (fun r23 => gd (fA M r23 1 x7) N (if (M.2.2.1 r23 (x7.toNatClampNeg)) = ((-1) - x2) then J 236 [.ref a0, .int x2, .int x3, .int x4, .int x7, .int 0] M else J 212 [.ref a0, .int x2, .int x3, .int x4, .int x7] M)) else J 212 [.ref a0, .int x2, .int x3, .int x4, .int x7] M)))
set_option maxHeartbeats 4000000 in
set_option maxRecDepth 100000 in
theorem n_X11_cut_180.{u, v} {α : Sort u} {β : Sort v} (h : α → β) (J : Nat → List Value → Mem → α) (R : Int32 → Mem → α) (N : α) (n : Nat) (a0 : Nat) (x2 : Int32) (x3 : Int32) (x4 : Int32) (x7 : Int32) (M : Mem) : h (T_X11_cut_180 J R N n a0 x2 x3 x4 x7 M) = T_X11_cut_180 (fun c l M => h (J c l M)) (fun v M => h (R v M)) (h N) n a0 x2 x3 x4 x7 M := by
  simp only [T_X11_cut_180, nat_ite h, nat_gd h, nat_bnd h, nat_bnd2 h]
set_option maxHeartbeats 4000000 in
set_option maxRecDepth 100000 in
theorem w_X11_cut_180 {X : Nat × (Nat → Int32)} {al : Bool} {n : Nat} {Q : Option Value → Mem → Prop} {J : Nat → List Value → Mem → Prop} (hJ : ∀ c l M, J c l M → PW_X11_cut X al n Q c l M) {R : Int32 → Mem → Prop} (hR : ∀ v M, R v M → Q (some (.int v)) M) {a0 : Nat} {x2 : Int32} {x3 : Int32} {x4 : Int32} {x7 : Int32} {M : Mem} (h : T_X11_cut_180 J R False n a0 x2 x3 x4 x7 M) : AW X (RX11, cX11_cut, 11, (some .int), false, al, n) 0 0 180 [(0, .ref a0), (2, .int x2), (3, .int x3), (4, .int x4), (7, .int x7)] [] M Q := by
  unfold T_X11_cut_180 at h
  refine a_iload dX11_cut_180 rfl ?_
  refine a_aload_n dX11_cut_182 rfl rfl ?_
  obtain ⟨⟨ga1, gs2⟩, h⟩ := gd_t h
  refine a_get (v := .int (M.2.2.1 a0 24)) dX11_cut_183 fl_11_151 ga1 gs2 rfl ?_
  refine a_icmp_ge 339 dX11_cut_186 (by decide) (fun c3 => ?_) (fun c3 => ?_)
  · replace h := ite_t c3 h
    refine a_aload_n dX11_cut_339 rfl rfl ?_
    obtain ⟨_, M4, e5, h⟩ := bnd2_t h
    obtain ⟨n6, en7, e5⟩ := cal_t e5
    refine e_callV (As := []) (st := []) (a := a0) (ci := 11) false dX11_cut_340 mw_X11_turns (Or.inl ⟨rfl, ml_X11_340⟩) im_X11_turns se_X11_turns (by decide) ga1 gs2 rfl (Nat.le_of_ble_eq_true rfl) en7 (s_X11_turns e5) ?_
    refine a_aload_n dX11_cut_343 rfl rfl ?_
    refine a_iload dX11_cut_344 rfl ?_
    obtain ⟨⟨ga8, gs9⟩, h⟩ := gd_t h
    obtain ⟨_, M10, e11, h⟩ := bnd2_t h
    obtain ⟨n12, en13, e11⟩ := cal_t e11
    refine e_callV (As := [.int x4]) (st := []) (a := a0) (ci := 11) false dX11_cut_346 mw_X11_stores (Or.inl ⟨rfl, ml_X11_278⟩) im_X11_stores se_X11_stores (by decide) ga8 gs9 rfl (Nat.le_of_ble_eq_true rfl) en13 (s_X11_stores e11) ?_
    refine a_aload_n dX11_cut_349 rfl rfl ?_
    obtain ⟨⟨ga14, gs15⟩, h⟩ := gd_t h
    refine a_get (v := .int (M10.2.2.1 a0 24)) dX11_cut_350 fl_11_151 ga14 gs15 rfl ?_
    exact a_iret dX11_cut_353 rfl (hR _ _ h)
  · replace h := ite_f c3 h
    refine a_aload_n dX11_cut_189 rfl rfl ?_
    obtain ⟨r16, e17, h⟩ := bnd_t h
    refine a_get (v := .ref r16) dX11_cut_190 fl_11_59 ga1 gs2 (gvR e17 rfl) ?_
    refine a_iload dX11_cut_193 rfl ?_
    obtain ⟨⟨ga18, gn19, gs20, gi21⟩, h⟩ := gd_t h
    refine a_iaload dX11_cut_195 ga18 gs20 gi21 ?_
    refine a_if_ne 212 dX11_cut_196 (by decide) (fun c22 => ?_) (fun c22 => ?_)
    · replace h := ite_f c22 h
      exact a_lv (lv2 := [(0, .ref a0), (2, .int x2), (3, .int x3), (4, .int x4), (7, .int x7)]) (fa_cons rfl (fa_cons rfl (fa_cons rfl (fa_cons rfl (fa_cons rfl fa_nil))))) (hJ _ _ _ h)
    · replace h := ite_t c22 h
      refine a_aload_n dX11_cut_199 rfl rfl ?_
      obtain ⟨r23, e24, h⟩ := bnd_t h
      refine a_get (v := .ref r23) dX11_cut_200 fl_11_62 ga1 gs2 (gvR e24 rfl) ?_
      refine a_iload dX11_cut_203 rfl ?_
      obtain ⟨⟨ga25, gn26, gs27, gi28⟩, h⟩ := gd_t h
      refine a_iaload dX11_cut_205 ga25 gs27 gi28 ?_
      refine a_iconst (v := -1) dX11_cut_206 (by decide) ?_
      refine a_iload_n dX11_cut_207 rfl rfl ?_
      refine a_isub dX11_cut_208 ?_
      refine a_icmp_eq 233 dX11_cut_209 (by decide) (fun c29 => ?_) (fun c29 => ?_)
      · replace h := ite_t c29 h
        refine a_iconst (v := 0) dX11_cut_233 (by decide) ?_
        refine a_istore dX11_cut_234 (Nat.le_of_ble_eq_true rfl) (lv2 := [(8, .int 0), (0, .ref a0), (2, .int x2), (3, .int x3), (4, .int x4), (7, .int x7)]) rfl ?_
        exact a_lv (lv2 := [(0, .ref a0), (2, .int x2), (3, .int x3), (4, .int x4), (7, .int x7), (8, .int 0)]) (fa_cons rfl (fa_cons rfl (fa_cons rfl (fa_cons rfl (fa_cons rfl (fa_cons rfl fa_nil)))))) (hJ _ _ _ h)
      · replace h := ite_f c29 h
        exact a_lv (lv2 := [(0, .ref a0), (2, .int x2), (3, .int x3), (4, .int x4), (7, .int x7)]) (fa_cons rfl (fa_cons rfl (fa_cons rfl (fa_cons rfl (fa_cons rfl fa_nil))))) (hJ _ _ _ h)
set_option maxHeartbeats 4000000 in
set_option maxRecDepth 100000 in
noncomputable def T_X11_cut_212.{u} {α : Sort u} (J : Nat → List Value → Mem → α) (R : Int32 → Mem → α) (N : α) (n : Nat) (a0 : Nat) (x2 : Int32) (x3 : Int32) (x4 : Int32) (x7 : Int32) (M : Mem) : α := gd (fO M a0 11) N (bnd (M.2.2.2.2 a0 20) N (fun r3 => gd (fA M r3 1 x7) N (bnd (M.2.2.2.2 a0 21) N (fun r9 => gd (fA M r9 1 x7) N (bnd2 (cal n (fun n => f_X11_writes n a0 (M.2.2.1 r3 (x7.toNatClampNeg)) (M.2.2.1 r9 (x7.toNatClampNeg)) M)) N (fun _ M15 => J 180 [.ref a0, .int x2, .int x3, .int x4, .int (x7 + 1)] M15))))))
set_option maxHeartbeats 4000000 in
set_option maxRecDepth 100000 in
theorem n_X11_cut_212.{u, v} {α : Sort u} {β : Sort v} (h : α → β) (J : Nat → List Value → Mem → α) (R : Int32 → Mem → α) (N : α) (n : Nat) (a0 : Nat) (x2 : Int32) (x3 : Int32) (x4 : Int32) (x7 : Int32) (M : Mem) : h (T_X11_cut_212 J R N n a0 x2 x3 x4 x7 M) = T_X11_cut_212 (fun c l M => h (J c l M)) (fun v M => h (R v M)) (h N) n a0 x2 x3 x4 x7 M := by
  simp only [T_X11_cut_212, nat_ite h, nat_gd h, nat_bnd h, nat_bnd2 h]
set_option maxHeartbeats 4000000 in
set_option maxRecDepth 100000 in
theorem w_X11_cut_212 {X : Nat × (Nat → Int32)} {al : Bool} {n : Nat} {Q : Option Value → Mem → Prop} {J : Nat → List Value → Mem → Prop} (hJ : ∀ c l M, J c l M → PW_X11_cut X al n Q c l M) {R : Int32 → Mem → Prop} (hR : ∀ v M, R v M → Q (some (.int v)) M) {a0 : Nat} {x2 : Int32} {x3 : Int32} {x4 : Int32} {x7 : Int32} {M : Mem} (h : T_X11_cut_212 J R False n a0 x2 x3 x4 x7 M) : AW X (RX11, cX11_cut, 11, (some .int), false, al, n) 0 0 212 [(0, .ref a0), (2, .int x2), (3, .int x3), (4, .int x4), (7, .int x7)] [] M Q := by
  unfold T_X11_cut_212 at h
  refine a_aload_n dX11_cut_212 rfl rfl ?_
  refine a_aload_n dX11_cut_213 rfl rfl ?_
  obtain ⟨⟨ga1, gs2⟩, h⟩ := gd_t h
  obtain ⟨r3, e4, h⟩ := bnd_t h
  refine a_get (v := .ref r3) dX11_cut_214 fl_11_59 ga1 gs2 (gvR e4 rfl) ?_
  refine a_iload dX11_cut_217 rfl ?_
  obtain ⟨⟨ga5, gn6, gs7, gi8⟩, h⟩ := gd_t h
  refine a_iaload dX11_cut_219 ga5 gs7 gi8 ?_
  refine a_aload_n dX11_cut_220 rfl rfl ?_
  obtain ⟨r9, e10, h⟩ := bnd_t h
  refine a_get (v := .ref r9) dX11_cut_221 fl_11_62 ga1 gs2 (gvR e10 rfl) ?_
  refine a_iload dX11_cut_224 rfl ?_
  obtain ⟨⟨ga11, gn12, gs13, gi14⟩, h⟩ := gd_t h
  refine a_iaload dX11_cut_226 ga11 gs13 gi14 ?_
  obtain ⟨_, M15, e16, h⟩ := bnd2_t h
  obtain ⟨n17, en18, e16⟩ := cal_t e16
  refine e_callV (As := [.int (M.2.2.1 r3 (x7.toNatClampNeg)), .int (M.2.2.1 r9 (x7.toNatClampNeg))]) (st := []) (a := a0) (ci := 11) false dX11_cut_227 mw_X11_writes (Or.inl ⟨rfl, ml_X11_306⟩) im_X11_writes se_X11_writes (by decide) ga1 gs2 rfl (Nat.le_of_ble_eq_true rfl) en18 (s_X11_writes e16) ?_
  refine a_goto 333 dX11_cut_230 (by decide) ?_
  refine a_iinc (v := (x7 + 1)) dX11_cut_333 rfl (by first | rfl | decide) (Nat.le_of_ble_eq_true rfl) (lv2 := [(7, .int (x7 + 1)), (0, .ref a0), (2, .int x2), (3, .int x3), (4, .int x4)]) rfl ?_
  refine a_goto 180 dX11_cut_336 (by decide) ?_
  exact a_lv (lv2 := [(0, .ref a0), (2, .int x2), (3, .int x3), (4, .int x4), (7, .int (x7 + 1))]) (fa_cons rfl (fa_cons rfl (fa_cons rfl (fa_cons rfl (fa_cons rfl fa_nil))))) (hJ _ _ _ h)
set_option maxHeartbeats 4000000 in
set_option maxRecDepth 100000 in
noncomputable def T_X11_cut_236.{u} {α : Sort u} (J : Nat → List Value → Mem → α) (R : Int32 → Mem → α) (N : α) (n : Nat) (a0 : Nat) (x2 : Int32) (x3 : Int32) (x4 : Int32) (x7 : Int32) (x8 : Int32) (M : Mem) : α := gd (fO M a0 11) N (bnd (M.2.2.2.2 a0 19) N (fun r3 => gd (fA M r3 1 x3) N (if (M.2.2.1 r3 (x3.toNatClampNeg)) ≤ x8 then J 180 [.ref a0, .int x2, .int x3, .int x4, .int (x7 + 1)] M else bnd (M.2.2.2.2 a0 18) N (fun r10 => gd (fA M r10 1 ((200 * x3) + x8)) N (bnd (M.2.2.2.2 a0 17) N (fun r16 => gd (fA M r16 1 ((200 * x3) + x8)) N (if (M.2.2.1 r16 (((200 * x3) + x8).toNatClampNeg)) = 0 then if (M.2.2.1 r10 (((200 * x3) + x8).toNatClampNeg)) < 0 then J 288 [.ref a0, .int x2, .int x3, .int x4, .int x7, .int x8, .int (M.2.2.1 r10 (((200 * x3) + x8).toNatClampNeg)), .int 0] M else J 288 [.ref a0, .int x2, .int x3, .int x4, .int x7, .int x8, .int (M.2.2.1 r10 (((200 * x3) + x8).toNatClampNeg)), .int 1] M else J 288 [.ref a0, .int x2, .int x3, .int x4, .int x7, .int x8, .int (M.2.2.1 r10 (((200 * x3) + x8).toNatClampNeg)), .int 0] M)))))))
set_option maxHeartbeats 4000000 in
set_option maxRecDepth 100000 in
theorem n_X11_cut_236.{u, v} {α : Sort u} {β : Sort v} (h : α → β) (J : Nat → List Value → Mem → α) (R : Int32 → Mem → α) (N : α) (n : Nat) (a0 : Nat) (x2 : Int32) (x3 : Int32) (x4 : Int32) (x7 : Int32) (x8 : Int32) (M : Mem) : h (T_X11_cut_236 J R N n a0 x2 x3 x4 x7 x8 M) = T_X11_cut_236 (fun c l M => h (J c l M)) (fun v M => h (R v M)) (h N) n a0 x2 x3 x4 x7 x8 M := by
  simp only [T_X11_cut_236, nat_ite h, nat_gd h, nat_bnd h, nat_bnd2 h]
set_option maxHeartbeats 4000000 in
set_option maxRecDepth 100000 in
theorem w_X11_cut_236 {X : Nat × (Nat → Int32)} {al : Bool} {n : Nat} {Q : Option Value → Mem → Prop} {J : Nat → List Value → Mem → Prop} (hJ : ∀ c l M, J c l M → PW_X11_cut X al n Q c l M) {R : Int32 → Mem → Prop} (hR : ∀ v M, R v M → Q (some (.int v)) M) {a0 : Nat} {x2 : Int32} {x3 : Int32} {x4 : Int32} {x7 : Int32} {x8 : Int32} {M : Mem} (h : T_X11_cut_236 J R False n a0 x2 x3 x4 x7 x8 M) : AW X (RX11, cX11_cut, 11, (some .int), false, al, n) 0 0 236 [(0, .ref a0), (2, .int x2), (3, .int x3), (4, .int x4), (7, .int x7), (8, .int x8)] [] M Q := by
  unfold T_X11_cut_236 at h
  refine a_iload dX11_cut_236 rfl ?_
  refine a_aload_n dX11_cut_238 rfl rfl ?_
  obtain ⟨⟨ga1, gs2⟩, h⟩ := gd_t h
  obtain ⟨r3, e4, h⟩ := bnd_t h
  refine a_get (v := .ref r3) dX11_cut_239 fl_11_56 ga1 gs2 (gvR e4 rfl) ?_
  refine a_iload_n dX11_cut_242 rfl rfl ?_
  obtain ⟨⟨ga5, gn6, gs7, gi8⟩, h⟩ := gd_t h
  refine a_iaload dX11_cut_243 ga5 gs7 gi8 ?_
  refine a_icmp_ge 333 dX11_cut_244 (by decide) (fun c9 => ?_) (fun c9 => ?_)
  · replace h := ite_t c9 h
    refine a_iinc (v := (x7 + 1)) dX11_cut_333 rfl (by first | rfl | decide) (Nat.le_of_ble_eq_true rfl) (lv2 := [(7, .int (x7 + 1)), (0, .ref a0), (2, .int x2), (3, .int x3), (4, .int x4), (8, .int x8)]) rfl ?_
    refine a_goto 180 dX11_cut_336 (by decide) ?_
    exact a_lv (lv2 := [(0, .ref a0), (2, .int x2), (3, .int x3), (4, .int x4), (7, .int (x7 + 1))]) (fa_cons rfl (fa_cons rfl (fa_cons rfl (fa_cons rfl (fa_cons rfl fa_nil))))) (hJ _ _ _ h)
  · replace h := ite_f c9 h
    refine a_aload_n dX11_cut_247 rfl rfl ?_
    obtain ⟨r10, e11, h⟩ := bnd_t h
    refine a_get (v := .ref r10) dX11_cut_248 fl_11_53 ga1 gs2 (gvR e11 rfl) ?_
    refine a_sipush (v := 200) dX11_cut_251 (by decide) ?_
    refine a_iload_n dX11_cut_254 rfl rfl ?_
    refine a_imul dX11_cut_255 ?_
    refine a_iload dX11_cut_256 rfl ?_
    refine a_iadd dX11_cut_258 ?_
    obtain ⟨⟨ga12, gn13, gs14, gi15⟩, h⟩ := gd_t h
    refine a_iaload dX11_cut_259 ga12 gs14 gi15 ?_
    refine a_istore dX11_cut_260 (Nat.le_of_ble_eq_true rfl) (lv2 := [(9, .int (M.2.2.1 r10 (((200 * x3) + x8).toNatClampNeg))), (0, .ref a0), (2, .int x2), (3, .int x3), (4, .int x4), (7, .int x7), (8, .int x8)]) rfl ?_
    refine a_aload_n dX11_cut_262 rfl rfl ?_
    obtain ⟨r16, e17, h⟩ := bnd_t h
    refine a_get (v := .ref r16) dX11_cut_263 fl_11_50 ga1 gs2 (gvR e17 rfl) ?_
    refine a_sipush (v := 200) dX11_cut_266 (by decide) ?_
    refine a_iload_n dX11_cut_269 rfl rfl ?_
    refine a_imul dX11_cut_270 ?_
    refine a_iload dX11_cut_271 rfl ?_
    refine a_iadd dX11_cut_273 ?_
    obtain ⟨⟨ga18, gn19, gs20, gi21⟩, h⟩ := gd_t h
    refine a_iaload dX11_cut_274 ga18 gs20 gi21 ?_
    refine a_if_ne 287 dX11_cut_275 (by decide) (fun c22 => ?_) (fun c22 => ?_)
    · replace h := ite_f c22 h
      refine a_iconst (v := 0) dX11_cut_287 (by decide) ?_
      exact a_lv (lv2 := [(0, .ref a0), (2, .int x2), (3, .int x3), (4, .int x4), (7, .int x7), (8, .int x8), (9, .int (M.2.2.1 r10 (((200 * x3) + x8).toNatClampNeg)))]) (fa_cons rfl (fa_cons rfl (fa_cons rfl (fa_cons rfl (fa_cons rfl (fa_cons rfl (fa_cons rfl fa_nil))))))) (hJ _ _ _ h)
    · replace h := ite_t c22 h
      refine a_iload dX11_cut_278 rfl ?_
      refine a_if_lt 287 dX11_cut_280 (by decide) (fun c23 => ?_) (fun c23 => ?_)
      · replace h := ite_t c23 h
        refine a_iconst (v := 0) dX11_cut_287 (by decide) ?_
        exact a_lv (lv2 := [(0, .ref a0), (2, .int x2), (3, .int x3), (4, .int x4), (7, .int x7), (8, .int x8), (9, .int (M.2.2.1 r10 (((200 * x3) + x8).toNatClampNeg)))]) (fa_cons rfl (fa_cons rfl (fa_cons rfl (fa_cons rfl (fa_cons rfl (fa_cons rfl (fa_cons rfl fa_nil))))))) (hJ _ _ _ h)
      · replace h := ite_f c23 h
        refine a_iconst (v := 1) dX11_cut_283 (by decide) ?_
        refine a_goto 288 dX11_cut_284 (by decide) ?_
        exact a_lv (lv2 := [(0, .ref a0), (2, .int x2), (3, .int x3), (4, .int x4), (7, .int x7), (8, .int x8), (9, .int (M.2.2.1 r10 (((200 * x3) + x8).toNatClampNeg)))]) (fa_cons rfl (fa_cons rfl (fa_cons rfl (fa_cons rfl (fa_cons rfl (fa_cons rfl (fa_cons rfl fa_nil))))))) (hJ _ _ _ h)
set_option maxHeartbeats 4000000 in
set_option maxRecDepth 100000 in
noncomputable def T_X11_cut_288.{u} {α : Sort u} (J : Nat → List Value → Mem → α) (R : Int32 → Mem → α) (N : α) (n : Nat) (a0 : Nat) (x2 : Int32) (x3 : Int32) (x4 : Int32) (x7 : Int32) (x8 : Int32) (x9 : Int32) (xs0 : Int32) (M : Mem) : α := gd (fO M a0 11) N (bnd (M.2.2.2.2 a0 17) N (fun r3 => gd (fA M r3 1 ((200 * x3) + x8)) N (if xs0 = 0 then bnd2 (cal n (fun n => f_X11_writes n a0 (M.2.2.1 r3 (((200 * x3) + x8).toNatClampNeg)) x9 M)) N (fun _ M10 => J 236 [.ref a0, .int x2, .int x3, .int x4, .int x7, .int (x8 + 1)] M10) else bnd (M.2.2.2.2 a0 41) N (fun r14 => gd (fA M r14 1 x7) N (bnd2 (cal n (fun n => f_X11_writes n a0 (M.2.2.1 r3 (((200 * x3) + x8).toNatClampNeg)) (x9 + (M.2.2.1 r14 (x7.toNatClampNeg))) M)) N (fun _ M20 => J 236 [.ref a0, .int x2, .int x3, .int x4, .int x7, .int (x8 + 1)] M20))))))
set_option maxHeartbeats 4000000 in
set_option maxRecDepth 100000 in
theorem n_X11_cut_288.{u, v} {α : Sort u} {β : Sort v} (h : α → β) (J : Nat → List Value → Mem → α) (R : Int32 → Mem → α) (N : α) (n : Nat) (a0 : Nat) (x2 : Int32) (x3 : Int32) (x4 : Int32) (x7 : Int32) (x8 : Int32) (x9 : Int32) (xs0 : Int32) (M : Mem) : h (T_X11_cut_288 J R N n a0 x2 x3 x4 x7 x8 x9 xs0 M) = T_X11_cut_288 (fun c l M => h (J c l M)) (fun v M => h (R v M)) (h N) n a0 x2 x3 x4 x7 x8 x9 xs0 M := by
  simp only [T_X11_cut_288, nat_ite h, nat_gd h, nat_bnd h, nat_bnd2 h]
set_option maxHeartbeats 4000000 in
set_option maxRecDepth 100000 in
theorem w_X11_cut_288 {X : Nat × (Nat → Int32)} {al : Bool} {n : Nat} {Q : Option Value → Mem → Prop} {J : Nat → List Value → Mem → Prop} (hJ : ∀ c l M, J c l M → PW_X11_cut X al n Q c l M) {R : Int32 → Mem → Prop} (hR : ∀ v M, R v M → Q (some (.int v)) M) {a0 : Nat} {x2 : Int32} {x3 : Int32} {x4 : Int32} {x7 : Int32} {x8 : Int32} {x9 : Int32} {xs0 : Int32} {M : Mem} (h : T_X11_cut_288 J R False n a0 x2 x3 x4 x7 x8 x9 xs0 M) : AW X (RX11, cX11_cut, 11, (some .int), false, al, n) 0 0 288 [(0, .ref a0), (2, .int x2), (3, .int x3), (4, .int x4), (7, .int x7), (8, .int x8), (9, .int x9)] [.int xs0] M Q := by
  unfold T_X11_cut_288 at h
  refine a_istore dX11_cut_288 (Nat.le_of_ble_eq_true rfl) (lv2 := [(10, .int xs0), (0, .ref a0), (2, .int x2), (3, .int x3), (4, .int x4), (7, .int x7), (8, .int x8), (9, .int x9)]) rfl ?_
  refine a_aload_n dX11_cut_290 rfl rfl ?_
  refine a_aload_n dX11_cut_291 rfl rfl ?_
  obtain ⟨⟨ga1, gs2⟩, h⟩ := gd_t h
  obtain ⟨r3, e4, h⟩ := bnd_t h
  refine a_get (v := .ref r3) dX11_cut_292 fl_11_50 ga1 gs2 (gvR e4 rfl) ?_
  refine a_sipush (v := 200) dX11_cut_295 (by decide) ?_
  refine a_iload_n dX11_cut_298 rfl rfl ?_
  refine a_imul dX11_cut_299 ?_
  refine a_iload dX11_cut_300 rfl ?_
  refine a_iadd dX11_cut_302 ?_
  obtain ⟨⟨ga5, gn6, gs7, gi8⟩, h⟩ := gd_t h
  refine a_iaload dX11_cut_303 ga5 gs7 gi8 ?_
  refine a_iload dX11_cut_304 rfl ?_
  refine a_if_eq 322 dX11_cut_306 (by decide) (fun c9 => ?_) (fun c9 => ?_)
  · replace h := ite_t c9 h
    refine a_iload dX11_cut_322 rfl ?_
    obtain ⟨_, M10, e11, h⟩ := bnd2_t h
    obtain ⟨n12, en13, e11⟩ := cal_t e11
    refine e_callV (As := [.int (M.2.2.1 r3 (((200 * x3) + x8).toNatClampNeg)), .int x9]) (st := []) (a := a0) (ci := 11) false dX11_cut_324 mw_X11_writes (Or.inl ⟨rfl, ml_X11_306⟩) im_X11_writes se_X11_writes (by decide) ga1 gs2 rfl (Nat.le_of_ble_eq_true rfl) en13 (s_X11_writes e11) ?_
    refine a_iinc (v := (x8 + 1)) dX11_cut_327 rfl (by first | rfl | decide) (Nat.le_of_ble_eq_true rfl) (lv2 := [(8, .int (x8 + 1)), (10, .int xs0), (0, .ref a0), (2, .int x2), (3, .int x3), (4, .int x4), (7, .int x7), (9, .int x9)]) rfl ?_
    refine a_goto 236 dX11_cut_330 (by decide) ?_
    exact a_lv (lv2 := [(0, .ref a0), (2, .int x2), (3, .int x3), (4, .int x4), (7, .int x7), (8, .int (x8 + 1))]) (fa_cons rfl (fa_cons rfl (fa_cons rfl (fa_cons rfl (fa_cons rfl (fa_cons rfl fa_nil)))))) (hJ _ _ _ h)
  · replace h := ite_f c9 h
    refine a_iload dX11_cut_309 rfl ?_
    refine a_aload_n dX11_cut_311 rfl rfl ?_
    obtain ⟨r14, e15, h⟩ := bnd_t h
    refine a_get (v := .ref r14) dX11_cut_312 fl_11_90 ga1 gs2 (gvR e15 rfl) ?_
    refine a_iload dX11_cut_315 rfl ?_
    obtain ⟨⟨ga16, gn17, gs18, gi19⟩, h⟩ := gd_t h
    refine a_iaload dX11_cut_317 ga16 gs18 gi19 ?_
    refine a_iadd dX11_cut_318 ?_
    refine a_goto 324 dX11_cut_319 (by decide) ?_
    obtain ⟨_, M20, e21, h⟩ := bnd2_t h
    obtain ⟨n22, en23, e21⟩ := cal_t e21
    refine e_callV (As := [.int (M.2.2.1 r3 (((200 * x3) + x8).toNatClampNeg)), .int (x9 + (M.2.2.1 r14 (x7.toNatClampNeg)))]) (st := []) (a := a0) (ci := 11) false dX11_cut_324 mw_X11_writes (Or.inl ⟨rfl, ml_X11_306⟩) im_X11_writes se_X11_writes (by decide) ga1 gs2 rfl (Nat.le_of_ble_eq_true rfl) en23 (s_X11_writes e21) ?_
    refine a_iinc (v := (x8 + 1)) dX11_cut_327 rfl (by first | rfl | decide) (Nat.le_of_ble_eq_true rfl) (lv2 := [(8, .int (x8 + 1)), (10, .int xs0), (0, .ref a0), (2, .int x2), (3, .int x3), (4, .int x4), (7, .int x7), (9, .int x9)]) rfl ?_
    refine a_goto 236 dX11_cut_330 (by decide) ?_
    exact a_lv (lv2 := [(0, .ref a0), (2, .int x2), (3, .int x3), (4, .int x4), (7, .int x7), (8, .int (x8 + 1))]) (fa_cons rfl (fa_cons rfl (fa_cons rfl (fa_cons rfl (fa_cons rfl (fa_cons rfl fa_nil)))))) (hJ _ _ _ h)
set_option maxHeartbeats 4000000 in
set_option maxRecDepth 100000 in
noncomputable def st_X11_cut (n : Nat) (s : Sg) : Option (Sg ⊕ (Int32 × Mem)) := if s.1 = 0 then vR s.2.1 none (fun a0 t => vI t none (fun x1 t => vI t none (fun x2 t => vI t none (fun x3 t => vI t none (fun x4 t => vE t none (T_X11_cut_0 (fun c l M => some (.inl (c, l, M))) (fun v M => some (.inr (v, M))) none n a0 x1 x2 x3 x4 s.2.2)))))) else if s.1 = 106 then vR s.2.1 none (fun a0 t => vI t none (fun x2 t => vI t none (fun x3 t => vI t none (fun x4 t => vI t none (fun x6 t => vI t none (fun x7 t => vE t none (T_X11_cut_106 (fun c l M => some (.inl (c, l, M))) (fun v M => some (.inr (v, M))) none n a0 x2 x3 x4 x6 x7 s.2.2))))))) else if s.1 = 180 then vR s.2.1 none (fun a0 t => vI t none (fun x2 t => vI t none (fun x3 t => vI t none (fun x4 t => vI t none (fun x7 t => vE t none (T_X11_cut_180 (fun c l M => some (.inl (c, l, M))) (fun v M => some (.inr (v, M))) none n a0 x2 x3 x4 x7 s.2.2)))))) else if s.1 = 212 then vR s.2.1 none (fun a0 t => vI t none (fun x2 t => vI t none (fun x3 t => vI t none (fun x4 t => vI t none (fun x7 t => vE t none (T_X11_cut_212 (fun c l M => some (.inl (c, l, M))) (fun v M => some (.inr (v, M))) none n a0 x2 x3 x4 x7 s.2.2)))))) else if s.1 = 236 then vR s.2.1 none (fun a0 t => vI t none (fun x2 t => vI t none (fun x3 t => vI t none (fun x4 t => vI t none (fun x7 t => vI t none (fun x8 t => vE t none (T_X11_cut_236 (fun c l M => some (.inl (c, l, M))) (fun v M => some (.inr (v, M))) none n a0 x2 x3 x4 x7 x8 s.2.2))))))) else if s.1 = 288 then vR s.2.1 none (fun a0 t => vI t none (fun x2 t => vI t none (fun x3 t => vI t none (fun x4 t => vI t none (fun x7 t => vI t none (fun x8 t => vI t none (fun x9 t => vI t none (fun xs0 t => vE t none (T_X11_cut_288 (fun c l M => some (.inl (c, l, M))) (fun v M => some (.inr (v, M))) none n a0 x2 x3 x4 x7 x8 x9 xs0 s.2.2))))))))) else none
noncomputable abbrev g_X11_cut_0 (n : Nat) (a0 : Nat) (x1 : Int32) (x2 : Int32) (x3 : Int32) (x4 : Int32) (M : Mem) : Option (Int32 × Mem) := lp (st_X11_cut n) (0, [.ref a0, .int x1, .int x2, .int x3, .int x4], M)
set_option maxHeartbeats 4000000 in
set_option maxRecDepth 100000 in
theorem ge_X11_cut_0 (n : Nat) (a0 : Nat) (x1 : Int32) (x2 : Int32) (x3 : Int32) (x4 : Int32) (M : Mem) : g_X11_cut_0 n a0 x1 x2 x3 x4 M = T_X11_cut_0 (fun c l M => lp (st_X11_cut n) (c, l, M)) (fun v M => some (v, M)) none n a0 x1 x2 x3 x4 M := (lp_eq _ _).trans (n_X11_cut_0 (lpK (st_X11_cut n)) (fun c l M => some (.inl (c, l, M))) (fun v M => some (.inr (v, M))) none n a0 x1 x2 x3 x4 M)
noncomputable abbrev g_X11_cut_106 (n : Nat) (a0 : Nat) (x2 : Int32) (x3 : Int32) (x4 : Int32) (x6 : Int32) (x7 : Int32) (M : Mem) : Option (Int32 × Mem) := lp (st_X11_cut n) (106, [.ref a0, .int x2, .int x3, .int x4, .int x6, .int x7], M)
set_option maxHeartbeats 4000000 in
set_option maxRecDepth 100000 in
theorem ge_X11_cut_106 (n : Nat) (a0 : Nat) (x2 : Int32) (x3 : Int32) (x4 : Int32) (x6 : Int32) (x7 : Int32) (M : Mem) : g_X11_cut_106 n a0 x2 x3 x4 x6 x7 M = T_X11_cut_106 (fun c l M => lp (st_X11_cut n) (c, l, M)) (fun v M => some (v, M)) none n a0 x2 x3 x4 x6 x7 M := (lp_eq _ _).trans (n_X11_cut_106 (lpK (st_X11_cut n)) (fun c l M => some (.inl (c, l, M))) (fun v M => some (.inr (v, M))) none n a0 x2 x3 x4 x6 x7 M)
noncomputable abbrev g_X11_cut_180 (n : Nat) (a0 : Nat) (x2 : Int32) (x3 : Int32) (x4 : Int32) (x7 : Int32) (M : Mem) : Option (Int32 × Mem) := lp (st_X11_cut n) (180, [.ref a0, .int x2, .int x3, .int x4, .int x7], M)
set_option maxHeartbeats 4000000 in
set_option maxRecDepth 100000 in
theorem ge_X11_cut_180 (n : Nat) (a0 : Nat) (x2 : Int32) (x3 : Int32) (x4 : Int32) (x7 : Int32) (M : Mem) : g_X11_cut_180 n a0 x2 x3 x4 x7 M = T_X11_cut_180 (fun c l M => lp (st_X11_cut n) (c, l, M)) (fun v M => some (v, M)) none n a0 x2 x3 x4 x7 M := (lp_eq _ _).trans (n_X11_cut_180 (lpK (st_X11_cut n)) (fun c l M => some (.inl (c, l, M))) (fun v M => some (.inr (v, M))) none n a0 x2 x3 x4 x7 M)
noncomputable abbrev g_X11_cut_212 (n : Nat) (a0 : Nat) (x2 : Int32) (x3 : Int32) (x4 : Int32) (x7 : Int32) (M : Mem) : Option (Int32 × Mem) := lp (st_X11_cut n) (212, [.ref a0, .int x2, .int x3, .int x4, .int x7], M)
set_option maxHeartbeats 4000000 in
set_option maxRecDepth 100000 in
theorem ge_X11_cut_212 (n : Nat) (a0 : Nat) (x2 : Int32) (x3 : Int32) (x4 : Int32) (x7 : Int32) (M : Mem) : g_X11_cut_212 n a0 x2 x3 x4 x7 M = T_X11_cut_212 (fun c l M => lp (st_X11_cut n) (c, l, M)) (fun v M => some (v, M)) none n a0 x2 x3 x4 x7 M := (lp_eq _ _).trans (n_X11_cut_212 (lpK (st_X11_cut n)) (fun c l M => some (.inl (c, l, M))) (fun v M => some (.inr (v, M))) none n a0 x2 x3 x4 x7 M)
noncomputable abbrev g_X11_cut_236 (n : Nat) (a0 : Nat) (x2 : Int32) (x3 : Int32) (x4 : Int32) (x7 : Int32) (x8 : Int32) (M : Mem) : Option (Int32 × Mem) := lp (st_X11_cut n) (236, [.ref a0, .int x2, .int x3, .int x4, .int x7, .int x8], M)
set_option maxHeartbeats 4000000 in
set_option maxRecDepth 100000 in
theorem ge_X11_cut_236 (n : Nat) (a0 : Nat) (x2 : Int32) (x3 : Int32) (x4 : Int32) (x7 : Int32) (x8 : Int32) (M : Mem) : g_X11_cut_236 n a0 x2 x3 x4 x7 x8 M = T_X11_cut_236 (fun c l M => lp (st_X11_cut n) (c, l, M)) (fun v M => some (v, M)) none n a0 x2 x3 x4 x7 x8 M := (lp_eq _ _).trans (n_X11_cut_236 (lpK (st_X11_cut n)) (fun c l M => some (.inl (c, l, M))) (fun v M => some (.inr (v, M))) none n a0 x2 x3 x4 x7 x8 M)
noncomputable abbrev g_X11_cut_288 (n : Nat) (a0 : Nat) (x2 : Int32) (x3 : Int32) (x4 : Int32) (x7 : Int32) (x8 : Int32) (x9 : Int32) (xs0 : Int32) (M : Mem) : Option (Int32 × Mem) := lp (st_X11_cut n) (288, [.ref a0, .int x2, .int x3, .int x4, .int x7, .int x8, .int x9, .int xs0], M)
set_option maxHeartbeats 4000000 in
set_option maxRecDepth 100000 in
theorem ge_X11_cut_288 (n : Nat) (a0 : Nat) (x2 : Int32) (x3 : Int32) (x4 : Int32) (x7 : Int32) (x8 : Int32) (x9 : Int32) (xs0 : Int32) (M : Mem) : g_X11_cut_288 n a0 x2 x3 x4 x7 x8 x9 xs0 M = T_X11_cut_288 (fun c l M => lp (st_X11_cut n) (c, l, M)) (fun v M => some (v, M)) none n a0 x2 x3 x4 x7 x8 x9 xs0 M := (lp_eq _ _).trans (n_X11_cut_288 (lpK (st_X11_cut n)) (fun c l M => some (.inl (c, l, M))) (fun v M => some (.inr (v, M))) none n a0 x2 x3 x4 x7 x8 x9 xs0 M)
noncomputable def b_X11_cut (n : Nat) (a0 : Nat) (x1 : Int32) (x2 : Int32) (x3 : Int32) (x4 : Int32) (M : Mem) : Option (Int32 × Mem) := g_X11_cut_0 n a0 x1 x2 x3 x4 M
set_option maxHeartbeats 4000000 in
set_option maxRecDepth 100000 in
theorem sb_X11_cut {X : Nat × (Nat → Int32)} {al : Bool} {n : Nat} {a0 : Nat} {x1 : Int32} {x2 : Int32} {x3 : Int32} {x4 : Int32} {M : Mem} {v : Int32} {M1 : Mem} (h : b_X11_cut n a0 x1 x2 x3 x4 M = some (v, M1)) : AE yX11_cut cX11_cut 11 (some .int) al n X [.ref a0, .int x1, .int x2, .int x3, .int x4] M (some (.int v)) M1 := by
  refine AM.of false (by decide +kernel) (by intro h; cases h) (Nat.le_of_ble_eq_true rfl) ?_
  refine lp_snd (P := fun s r => PW_X11_cut X al n (fun v M2 => v = (some (.int r.1)) ∧ M2 = r.2) s.1 s.2.1 s.2.2) ?_ h
  clear h
  rintro ⟨c, l, M⟩ r h
  unfold st_X11_cut at h
  rcases ite_p h with ⟨e, h⟩ | ⟨e, h⟩
  · replace e : c = 0 := e
    subst e
    obtain ⟨a0, tt0, e, h⟩ := vR_p id h
    replace e : l = _ := e
    subst e
    obtain ⟨x1, tt1, e, h⟩ := vI_p id h
    replace e : tt0 = _ := e
    subst e
    obtain ⟨x2, tt2, e, h⟩ := vI_p id h
    replace e : tt1 = _ := e
    subst e
    obtain ⟨x3, tt3, e, h⟩ := vI_p id h
    replace e : tt2 = _ := e
    subst e
    obtain ⟨x4, tt4, e, h⟩ := vI_p id h
    replace e : tt3 = _ := e
    subst e
    obtain ⟨e, h⟩ := vE_p id h
    replace e : tt4 = [] := e
    subst e
    exact w_X11_cut_0 (J := fun c l M => PW_X11_cut X al n (fun v M2 => v = (some (.int r.1)) ∧ M2 = r.2) c l M) (R := fun v M => (v, M) = r) (fun _ _ _ h => h) (fun v M h => by cases h; exact ⟨rfl, rfl⟩) ((n_X11_cut_0 (lpP (fun (s : Sg) (r : Int32 × Mem) => PW_X11_cut X al n (fun v M2 => v = (some (.int r.1)) ∧ M2 = r.2) s.1 s.2.1 s.2.2) r) (fun c l M => some (.inl (c, l, M))) (fun v M => some (.inr (v, M))) none n a0 x1 x2 x3 x4 M).mp h)
  rcases ite_p h with ⟨e, h⟩ | ⟨e, h⟩
  · replace e : c = 106 := e
    subst e
    obtain ⟨a0, tt0, e, h⟩ := vR_p id h
    replace e : l = _ := e
    subst e
    obtain ⟨x2, tt1, e, h⟩ := vI_p id h
    replace e : tt0 = _ := e
    subst e
    obtain ⟨x3, tt2, e, h⟩ := vI_p id h
    replace e : tt1 = _ := e
    subst e
    obtain ⟨x4, tt3, e, h⟩ := vI_p id h
    replace e : tt2 = _ := e
    subst e
    obtain ⟨x6, tt4, e, h⟩ := vI_p id h
    replace e : tt3 = _ := e
    subst e
    obtain ⟨x7, tt5, e, h⟩ := vI_p id h
    replace e : tt4 = _ := e
    subst e
    obtain ⟨e, h⟩ := vE_p id h
    replace e : tt5 = [] := e
    subst e
    exact w_X11_cut_106 (J := fun c l M => PW_X11_cut X al n (fun v M2 => v = (some (.int r.1)) ∧ M2 = r.2) c l M) (R := fun v M => (v, M) = r) (fun _ _ _ h => h) (fun v M h => by cases h; exact ⟨rfl, rfl⟩) ((n_X11_cut_106 (lpP (fun (s : Sg) (r : Int32 × Mem) => PW_X11_cut X al n (fun v M2 => v = (some (.int r.1)) ∧ M2 = r.2) s.1 s.2.1 s.2.2) r) (fun c l M => some (.inl (c, l, M))) (fun v M => some (.inr (v, M))) none n a0 x2 x3 x4 x6 x7 M).mp h)
  rcases ite_p h with ⟨e, h⟩ | ⟨e, h⟩
  · replace e : c = 180 := e
    subst e
    obtain ⟨a0, tt0, e, h⟩ := vR_p id h
    replace e : l = _ := e
    subst e
    obtain ⟨x2, tt1, e, h⟩ := vI_p id h
    replace e : tt0 = _ := e
    subst e
    obtain ⟨x3, tt2, e, h⟩ := vI_p id h
    replace e : tt1 = _ := e
    subst e
    obtain ⟨x4, tt3, e, h⟩ := vI_p id h
    replace e : tt2 = _ := e
    subst e
    obtain ⟨x7, tt4, e, h⟩ := vI_p id h
    replace e : tt3 = _ := e
    subst e
    obtain ⟨e, h⟩ := vE_p id h
    replace e : tt4 = [] := e
    subst e
    exact w_X11_cut_180 (J := fun c l M => PW_X11_cut X al n (fun v M2 => v = (some (.int r.1)) ∧ M2 = r.2) c l M) (R := fun v M => (v, M) = r) (fun _ _ _ h => h) (fun v M h => by cases h; exact ⟨rfl, rfl⟩) ((n_X11_cut_180 (lpP (fun (s : Sg) (r : Int32 × Mem) => PW_X11_cut X al n (fun v M2 => v = (some (.int r.1)) ∧ M2 = r.2) s.1 s.2.1 s.2.2) r) (fun c l M => some (.inl (c, l, M))) (fun v M => some (.inr (v, M))) none n a0 x2 x3 x4 x7 M).mp h)
  rcases ite_p h with ⟨e, h⟩ | ⟨e, h⟩
  · replace e : c = 212 := e
    subst e
    obtain ⟨a0, tt0, e, h⟩ := vR_p id h
    replace e : l = _ := e
    subst e
    obtain ⟨x2, tt1, e, h⟩ := vI_p id h
    replace e : tt0 = _ := e
    subst e
    obtain ⟨x3, tt2, e, h⟩ := vI_p id h
    replace e : tt1 = _ := e
    subst e
    obtain ⟨x4, tt3, e, h⟩ := vI_p id h
    replace e : tt2 = _ := e
    subst e
    obtain ⟨x7, tt4, e, h⟩ := vI_p id h
    replace e : tt3 = _ := e
    subst e
    obtain ⟨e, h⟩ := vE_p id h
    replace e : tt4 = [] := e
    subst e
    exact w_X11_cut_212 (J := fun c l M => PW_X11_cut X al n (fun v M2 => v = (some (.int r.1)) ∧ M2 = r.2) c l M) (R := fun v M => (v, M) = r) (fun _ _ _ h => h) (fun v M h => by cases h; exact ⟨rfl, rfl⟩) ((n_X11_cut_212 (lpP (fun (s : Sg) (r : Int32 × Mem) => PW_X11_cut X al n (fun v M2 => v = (some (.int r.1)) ∧ M2 = r.2) s.1 s.2.1 s.2.2) r) (fun c l M => some (.inl (c, l, M))) (fun v M => some (.inr (v, M))) none n a0 x2 x3 x4 x7 M).mp h)
  rcases ite_p h with ⟨e, h⟩ | ⟨e, h⟩
  · replace e : c = 236 := e
    subst e
    obtain ⟨a0, tt0, e, h⟩ := vR_p id h
    replace e : l = _ := e
    subst e
    obtain ⟨x2, tt1, e, h⟩ := vI_p id h
    replace e : tt0 = _ := e
    subst e
    obtain ⟨x3, tt2, e, h⟩ := vI_p id h
    replace e : tt1 = _ := e
    subst e
    obtain ⟨x4, tt3, e, h⟩ := vI_p id h
    replace e : tt2 = _ := e
    subst e
    obtain ⟨x7, tt4, e, h⟩ := vI_p id h
    replace e : tt3 = _ := e
    subst e
    obtain ⟨x8, tt5, e, h⟩ := vI_p id h
    replace e : tt4 = _ := e
    subst e
    obtain ⟨e, h⟩ := vE_p id h
    replace e : tt5 = [] := e
    subst e
    exact w_X11_cut_236 (J := fun c l M => PW_X11_cut X al n (fun v M2 => v = (some (.int r.1)) ∧ M2 = r.2) c l M) (R := fun v M => (v, M) = r) (fun _ _ _ h => h) (fun v M h => by cases h; exact ⟨rfl, rfl⟩) ((n_X11_cut_236 (lpP (fun (s : Sg) (r : Int32 × Mem) => PW_X11_cut X al n (fun v M2 => v = (some (.int r.1)) ∧ M2 = r.2) s.1 s.2.1 s.2.2) r) (fun c l M => some (.inl (c, l, M))) (fun v M => some (.inr (v, M))) none n a0 x2 x3 x4 x7 x8 M).mp h)
  rcases ite_p h with ⟨e, h⟩ | ⟨e, h⟩
  · replace e : c = 288 := e
    subst e
    obtain ⟨a0, tt0, e, h⟩ := vR_p id h
    replace e : l = _ := e
    subst e
    obtain ⟨x2, tt1, e, h⟩ := vI_p id h
    replace e : tt0 = _ := e
    subst e
    obtain ⟨x3, tt2, e, h⟩ := vI_p id h
    replace e : tt1 = _ := e
    subst e
    obtain ⟨x4, tt3, e, h⟩ := vI_p id h
    replace e : tt2 = _ := e
    subst e
    obtain ⟨x7, tt4, e, h⟩ := vI_p id h
    replace e : tt3 = _ := e
    subst e
    obtain ⟨x8, tt5, e, h⟩ := vI_p id h
    replace e : tt4 = _ := e
    subst e
    obtain ⟨x9, tt6, e, h⟩ := vI_p id h
    replace e : tt5 = _ := e
    subst e
    obtain ⟨xs0, tt7, e, h⟩ := vI_p id h
    replace e : tt6 = _ := e
    subst e
    obtain ⟨e, h⟩ := vE_p id h
    replace e : tt7 = [] := e
    subst e
    exact w_X11_cut_288 (J := fun c l M => PW_X11_cut X al n (fun v M2 => v = (some (.int r.1)) ∧ M2 = r.2) c l M) (R := fun v M => (v, M) = r) (fun _ _ _ h => h) (fun v M h => by cases h; exact ⟨rfl, rfl⟩) ((n_X11_cut_288 (lpP (fun (s : Sg) (r : Int32 × Mem) => PW_X11_cut X al n (fun v M2 => v = (some (.int r.1)) ∧ M2 = r.2) s.1 s.2.1 s.2.2) r) (fun c l M => some (.inl (c, l, M))) (fun v M => some (.inr (v, M))) none n a0 x2 x3 x4 x7 x8 x9 xs0 M).mp h)
  · exact h.elim

noncomputable abbrev f_X11_cut := b_X11_cut
theorem s_X11_cut {X : Nat × (Nat → Int32)} {al : Bool} {n : Nat} {a0 : Nat} {x1 : Int32} {x2 : Int32} {x3 : Int32} {x4 : Int32} {M : Mem} {v : Int32} {M1 : Mem} (h : f_X11_cut n a0 x1 x2 x3 x4 M = some (v, M1)) : AE yX11_cut cX11_cut 11 (some .int) al n X [.ref a0, .int x1, .int x2, .int x3, .int x4] M (some (.int v)) M1 := sb_X11_cut h
