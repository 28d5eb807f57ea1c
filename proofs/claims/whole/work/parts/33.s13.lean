/-! METHODS AS FUNCTIONS, written by wip/gen/shallow.py -/
set_option maxHeartbeats 4000000 in
set_option maxRecDepth 100000 in
noncomputable def T_X10_proof_0.{u} {α : Sort u} (R : Int32 → Mem → α) (N : α) (n : Nat) (a0 : Nat) (x1 : Int32) (x2 : Int32) (M : Mem) : α := bnd2 (cal n (fun n => f_X10_noSlot n x1 M)) N (fun v1 M2 => if v1 = 0 then gd (fO M2 a0 10) N (bnd2 (cal n (fun n => f_X10_tapeLacks n a0 x2 M2)) N (fun v9 M10 => if v9 = 0 then gd (fO M10 a0 10) N (bnd (M10.2.2.2.2 a0 4) N (fun r17 => bnd (M10.2.2.2.2 a0 3) N (fun r19 => bnd (M10.2.2.2.2 a0 6) N (fun r21 => gd (fO M10 r17 6) N (bnd2 (cal n (fun n => f_X6_readTerm n r17 x2 r19 r21 (wI M10 a0 1 0))) N (fun v25 M26 => if v25 = 0 then gd (fO M26 a0 10) N (bnd (M26.2.2.2.2 a0 4) N (fun r97 => gd (fO M26 r97 6) N (R ((-30) - (M26.2.2.1 r97 17)) M26))) else gd (fO M26 a0 10) N (bnd (M26.2.2.2.2 a0 7) N (fun r33 => bnd (M26.2.2.2.2 a0 6) N (fun r35 => gd (fO M26 r33 3) N (bnd2 (cal n (fun n => f_X3_arrange n r33 r35 M26)) N (fun _ M39 => gd (fO M39 a0 10) N (bnd (M39.2.2.2.2 a0 7) N (fun r45 => gd (fO M39 r45 3) N (bnd2 (cal n (fun n => f_X3_ask n r45 M39)) N (fun v49 M50 => if v49 = (-1) then gd (fO M50 a0 10) N (bnd (M50.2.2.2.2 a0 5) N (fun r57 => gd (fA M50 r57 4 x1) N (bnd (M50.2.2.2.2 r57 (x1.toNatClampNeg)) N (fun r63 => bnd (M50.2.2.2.2 a0 6) N (fun r65 => gd (fO M50 r63 9) N (bnd2 (cal n (fun n => f_X9_takeOver n r63 r65 M50)) N (fun _ M69 => gd (fO M69 a0 10) N (bnd (M69.2.2.2.2 a0 6) N (fun r75 => gd (fO M69 r75 9) N (R (M69.2.2.1 r75 2) M69)))))))))) else gd (fO M50 a0 10) N (bnd (M50.2.2.2.2 a0 4) N (fun r81 => gd (fO M50 r81 6) N (bnd2 (cal n (fun n => f_X6_blameTerm n r81 v49 M50)) N (fun _ M85 => gd (fO M85 a0 10) N (bnd (M85.2.2.2.2 a0 4) N (fun r91 => gd (fO M85 r91 6) N (R ((-30) - (M85.2.2.1 r91 17)) M85)))))))))))))))))))))) else R (-3) M10)) else R (-2) M2)
set_option maxHeartbeats 4000000 in
set_option maxRecDepth 100000 in
theorem n_X10_proof_0.{u, v} {α : Sort u} {β : Sort v} (h : α → β) (R : Int32 → Mem → α) (N : α) (n : Nat) (a0 : Nat) (x1 : Int32) (x2 : Int32) (M : Mem) : h (T_X10_proof_0 R N n a0 x1 x2 M) = T_X10_proof_0 (fun v M => h (R v M)) (h N) n a0 x1 x2 M := by
  simp only [T_X10_proof_0, nat_ite h, nat_gd h, nat_bnd h, nat_bnd2 h]
set_option maxHeartbeats 4000000 in
set_option maxRecDepth 100000 in
theorem w_X10_proof_0 {X : Nat × (Nat → Int32)} {al : Bool} {n : Nat} {Q : Option Value → Mem → Prop} {R : Int32 → Mem → Prop} (hR : ∀ v M, R v M → Q (some (.int v)) M) {a0 : Nat} {x1 : Int32} {x2 : Int32} {M : Mem} (h : T_X10_proof_0 R False n a0 x1 x2 M) : AW X (RX10, cX10_proof, 4, (some .int), false, al, n) 0 0 0 [(0, .ref a0), (1, .int x1), (2, .int x2)] [] M Q := by
  unfold T_X10_proof_0 at h
  refine a_iload_n dX10_proof_0 rfl rfl ?_
  obtain ⟨v1, M2, e3, h⟩ := bnd2_t h
  obtain ⟨n4, en5, e3⟩ := cal_t e3
  refine e_callS (As := [.int x1]) (st := []) false dX10_proof_1 mw_X10_noSlot (Or.inl ⟨rfl, ml_X10_151⟩) sm_X10_noSlot rfl (Nat.le_of_ble_eq_true rfl) en5 (s_X10_noSlot e3) ?_
  refine a_if_eq 10 dX10_proof_4 (by decide) (fun c6 => ?_) (fun c6 => ?_)
  · replace h := ite_t c6 h
    refine a_aload_n dX10_proof_10 rfl rfl ?_
    refine a_iload_n dX10_proof_11 rfl rfl ?_
    obtain ⟨⟨ga7, gs8⟩, h⟩ := gd_t h
    obtain ⟨v9, M10, e11, h⟩ := bnd2_t h
    obtain ⟨n12, en13, e11⟩ := cal_t e11
    refine e_callV (As := [.int x2]) (st := []) (a := a0) (ci := 10) false dX10_proof_12 mw_X10_tapeLacks (Or.inl ⟨rfl, ml_X10_119⟩) im_X10_tapeLacks se_X10_tapeLacks (by decide) ga7 gs8 rfl (Nat.le_of_ble_eq_true rfl) en13 (s_X10_tapeLacks e11) ?_
    refine a_if_eq 21 dX10_proof_15 (by decide) (fun c14 => ?_) (fun c14 => ?_)
    · replace h := ite_t c14 h
      refine a_aload_n dX10_proof_21 rfl rfl ?_
      refine a_iconst (v := 0) dX10_proof_22 (by decide) ?_
      obtain ⟨⟨ga15, gs16⟩, h⟩ := gd_t h
      refine a_putI dX10_proof_23 (Or.inl ⟨fl_10_112, Or.inl rfl⟩) rfl ga15 gs16 rfl rfl ?_
      refine a_aload_n dX10_proof_26 rfl rfl ?_
      obtain ⟨r17, e18, h⟩ := bnd_t h
      refine a_get (v := .ref r17) dX10_proof_27 fl_10_32 ga15 gs16 (gvR e18 rfl) ?_
      refine a_iload_n dX10_proof_30 rfl rfl ?_
      refine a_aload_n dX10_proof_31 rfl rfl ?_
      obtain ⟨r19, e20, h⟩ := bnd_t h
      refine a_get (v := .ref r19) dX10_proof_32 fl_10_23 ga15 gs16 (gvR e20 rfl) ?_
      refine a_aload_n dX10_proof_35 rfl rfl ?_
      obtain ⟨r21, e22, h⟩ := bnd_t h
      refine a_get (v := .ref r21) dX10_proof_36 fl_10_43 ga15 gs16 (gvR e22 rfl) ?_
      obtain ⟨⟨ga23, gs24⟩, h⟩ := gd_t h
      obtain ⟨v25, M26, e27, h⟩ := bnd2_t h
      obtain ⟨n28, en29, e27⟩ := cal_t e27
      refine e_callV (As := [.int x2, .ref r19, .ref r21]) (st := []) (a := r17) (ci := 6) false dX10_proof_39 mw_X6_readTerm (Or.inl ⟨rfl, ml_X10_154⟩) im_X6_readTerm se_X6_readTerm (by decide) ga23 gs24 rfl (Nat.le_of_ble_eq_true rfl) en29 (s_X6_readTerm e27) ?_
      refine a_if_ne 56 dX10_proof_42 (by decide) (fun c30 => ?_) (fun c30 => ?_)
      · replace h := ite_f c30 h
        refine a_aload_n dX10_proof_56 rfl rfl ?_
        obtain ⟨⟨ga31, gs32⟩, h⟩ := gd_t h
        obtain ⟨r33, e34, h⟩ := bnd_t h
        refine a_get (v := .ref r33) dX10_proof_57 fl_10_52 ga31 gs32 (gvR e34 rfl) ?_
        refine a_aload_n dX10_proof_60 rfl rfl ?_
        obtain ⟨r35, e36, h⟩ := bnd_t h
        refine a_get (v := .ref r35) dX10_proof_61 fl_10_43 ga31 gs32 (gvR e36 rfl) ?_
        obtain ⟨⟨ga37, gs38⟩, h⟩ := gd_t h
        obtain ⟨_, M39, e40, h⟩ := bnd2_t h
        obtain ⟨n41, en42, e40⟩ := cal_t e40
        refine e_callV (As := [.ref r35]) (st := []) (a := r33) (ci := 3) false dX10_proof_64 mw_X3_arrange (Or.inl ⟨rfl, ml_X10_158⟩) im_X3_arrange se_X3_arrange (by decide) ga37 gs38 rfl (Nat.le_of_ble_eq_true rfl) en42 (s_X3_arrange e40) ?_
        refine a_aload_n dX10_proof_67 rfl rfl ?_
        obtain ⟨⟨ga43, gs44⟩, h⟩ := gd_t h
        obtain ⟨r45, e46, h⟩ := bnd_t h
        refine a_get (v := .ref r45) dX10_proof_68 fl_10_52 ga43 gs44 (gvR e46 rfl) ?_
        obtain ⟨⟨ga47, gs48⟩, h⟩ := gd_t h
        obtain ⟨v49, M50, e51, h⟩ := bnd2_t h
        obtain ⟨n52, en53, e51⟩ := cal_t e51
        refine e_callV (As := []) (st := []) (a := r45) (ci := 3) false dX10_proof_71 mw_X3_ask (Or.inl ⟨rfl, ml_X10_162⟩) im_X3_ask se_X3_ask (by decide) ga47 gs48 rfl (Nat.le_of_ble_eq_true rfl) en53 (s_X3_ask e51) ?_
        refine a_istore_n dX10_proof_74 rfl (Nat.le_of_ble_eq_true rfl) (lv2 := [(3, .int v49), (0, .ref a0), (1, .int x1), (2, .int x2)]) rfl ?_
        refine a_iload_n dX10_proof_75 rfl rfl ?_
        refine a_iconst (v := -1) dX10_proof_76 (by decide) ?_
        refine a_icmp_eq 99 dX10_proof_77 (by decide) (fun c54 => ?_) (fun c54 => ?_)
        · replace h := ite_t c54 h
          refine a_aload_n dX10_proof_99 rfl rfl ?_
          obtain ⟨⟨ga55, gs56⟩, h⟩ := gd_t h
          obtain ⟨r57, e58, h⟩ := bnd_t h
          refine a_get (v := .ref r57) dX10_proof_100 fl_10_38 ga55 gs56 (gvR e58 rfl) ?_
          refine a_iload_n dX10_proof_103 rfl rfl ?_
          obtain ⟨⟨ga59, gn60, gs61, gi62⟩, h⟩ := gd_t h
          obtain ⟨r63, e64, h⟩ := bnd_t h
          refine a_aaload dX10_proof_104 ga59 gs61 gi62 e64 ?_
          refine a_aload_n dX10_proof_105 rfl rfl ?_
          obtain ⟨r65, e66, h⟩ := bnd_t h
          refine a_get (v := .ref r65) dX10_proof_106 fl_10_43 ga55 gs56 (gvR e66 rfl) ?_
          obtain ⟨⟨ga67, gs68⟩, h⟩ := gd_t h
          obtain ⟨_, M69, e70, h⟩ := bnd2_t h
          obtain ⟨n71, en72, e70⟩ := cal_t e70
          refine e_callV (As := [.ref r65]) (st := []) (a := r63) (ci := 9) false dX10_proof_109 mw_X9_takeOver (Or.inl ⟨rfl, ml_X10_169⟩) im_X9_takeOver se_X9_takeOver (by decide) ga67 gs68 rfl (Nat.le_of_ble_eq_true rfl) en72 (s_X9_takeOver e70) ?_
          refine a_aload_n dX10_proof_112 rfl rfl ?_
          obtain ⟨⟨ga73, gs74⟩, h⟩ := gd_t h
          obtain ⟨r75, e76, h⟩ := bnd_t h
          refine a_get (v := .ref r75) dX10_proof_113 fl_10_43 ga73 gs74 (gvR e76 rfl) ?_
          obtain ⟨⟨ga77, gs78⟩, h⟩ := gd_t h
          refine a_getN (v := .int (M69.2.2.1 r75 2)) dX10_proof_116 fn_10_171 ga77 gs78 rfl ?_
          exact a_iret dX10_proof_119 rfl (hR _ _ h)
        · replace h := ite_f c54 h
          refine a_aload_n dX10_proof_80 rfl rfl ?_
          obtain ⟨⟨ga79, gs80⟩, h⟩ := gd_t h
          obtain ⟨r81, e82, h⟩ := bnd_t h
          refine a_get (v := .ref r81) dX10_proof_81 fl_10_32 ga79 gs80 (gvR e82 rfl) ?_
          refine a_iload_n dX10_proof_84 rfl rfl ?_
          obtain ⟨⟨ga83, gs84⟩, h⟩ := gd_t h
          obtain ⟨_, M85, e86, h⟩ := bnd2_t h
          obtain ⟨n87, en88, e86⟩ := cal_t e86
          refine e_callV (As := [.int v49]) (st := []) (a := r81) (ci := 6) false dX10_proof_85 mw_X6_blameTerm (Or.inl ⟨rfl, ml_X10_166⟩) im_X6_blameTerm se_X6_blameTerm (by decide) ga83 gs84 rfl (Nat.le_of_ble_eq_true rfl) en88 (s_X6_blameTerm e86) ?_
          refine a_bipush (v := -30) dX10_proof_88 (by decide) ?_
          refine a_aload_n dX10_proof_90 rfl rfl ?_
          obtain ⟨⟨ga89, gs90⟩, h⟩ := gd_t h
          obtain ⟨r91, e92, h⟩ := bnd_t h
          refine a_get (v := .ref r91) dX10_proof_91 fl_10_32 ga89 gs90 (gvR e92 rfl) ?_
          obtain ⟨⟨ga93, gs94⟩, h⟩ := gd_t h
          refine a_getN (v := .int (M85.2.2.1 r91 17)) dX10_proof_94 fn_10_126 ga93 gs94 rfl ?_
          refine a_isub dX10_proof_97 ?_
          exact a_iret dX10_proof_98 rfl (hR _ _ h)
      · replace h := ite_t c30 h
        refine a_bipush (v := -30) dX10_proof_45 (by decide) ?_
        refine a_aload_n dX10_proof_47 rfl rfl ?_
        obtain ⟨⟨ga95, gs96⟩, h⟩ := gd_t h
        obtain ⟨r97, e98, h⟩ := bnd_t h
        refine a_get (v := .ref r97) dX10_proof_48 fl_10_32 ga95 gs96 (gvR e98 rfl) ?_
        obtain ⟨⟨ga99, gs100⟩, h⟩ := gd_t h
        refine a_getN (v := .int (M26.2.2.1 r97 17)) dX10_proof_51 fn_10_126 ga99 gs100 rfl ?_
        refine a_isub dX10_proof_54 ?_
        exact a_iret dX10_proof_55 rfl (hR _ _ h)
    · replace h := ite_f c14 h
      refine a_bipush (v := -3) dX10_proof_18 (by decide) ?_
      exact a_iret dX10_proof_20 rfl (hR _ _ h)
  · replace h := ite_f c6 h
    refine a_bipush (v := -2) dX10_proof_7 (by decide) ?_
    exact a_iret dX10_proof_9 rfl (hR _ _ h)
noncomputable def b_X10_proof (n : Nat) (a0 : Nat) (x1 : Int32) (x2 : Int32) (M : Mem) : Option (Int32 × Mem) := T_X10_proof_0 (fun v M => some (v, M)) none n a0 x1 x2 M
set_option maxHeartbeats 4000000 in
set_option maxRecDepth 100000 in
theorem sb_X10_proof {X : Nat × (Nat → Int32)} {al : Bool} {n : Nat} {a0 : Nat} {x1 : Int32} {x2 : Int32} {M : Mem} {v : Int32} {M1 : Mem} (h : b_X10_proof n a0 x1 x2 M = some (v, M1)) : AE yX10_proof cX10_proof 4 (some .int) al n X [.ref a0, .int x1, .int x2] M (some (.int v)) M1 := by
  refine AM.of false (by decide +kernel) (by intro h; cases h) (Nat.le_of_ble_eq_true rfl) ?_
  have h2 : T_X10_proof_0 (fun v2 M2 => some (v2, M2) = some (v, M1)) (none = some (v, M1)) n a0 x1 x2 M := (n_X10_proof_0 (fun o => o = some (v, M1)) (fun v M => some (v, M)) none n a0 x1 x2 M).mp h
  have h3 : ((none : Option (Int32 × Mem)) = some (v, M1)) = False := eq_false (by intro q; cases q)
  rw [h3] at h2
  exact w_X10_proof_0 (fun v2 M2 h => by cases h; exact ⟨rfl, rfl⟩) h2

noncomputable abbrev f_X10_proof := b_X10_proof
theorem s_X10_proof {X : Nat × (Nat → Int32)} {al : Bool} {n : Nat} {a0 : Nat} {x1 : Int32} {x2 : Int32} {M : Mem} {v : Int32} {M1 : Mem} (h : f_X10_proof n a0 x1 x2 M = some (v, M1)) : AE yX10_proof cX10_proof 4 (some .int) al n X [.ref a0, .int x1, .int x2] M (some (.int v)) M1 := sb_X10_proof h
set_option maxHeartbeats 4000000 in
set_option maxRecDepth 100000 in
noncomputable def T_X11_isSlot_0.{u} {α : Sort u} (R : Int32 → Mem → α) (N : α) (n : Nat) (x0 : Int32) (M : Mem) : α := bnd2 (cal n (fun n => f_X11_isIn n (Int32.toInt64 x0) 0 (3) M)) N (fun v1 M2 => gd (narrow .boolean (.int v1) = .int v1) N (R v1 M2))
set_option maxHeartbeats 4000000 in
set_option maxRecDepth 100000 in
theorem n_X11_isSlot_0.{u, v} {α : Sort u} {β : Sort v} (h : α → β) (R : Int32 → Mem → α) (N : α) (n : Nat) (x0 : Int32) (M : Mem) : h (T_X11_isSlot_0 R N n x0 M) = T_X11_isSlot_0 (fun v M => h (R v M)) (h N) n x0 M := by
  simp only [T_X11_isSlot_0, nat_ite h, nat_gd h, nat_bnd h, nat_bnd2 h]
set_option maxHeartbeats 4000000 in
set_option maxRecDepth 100000 in
theorem w_X11_isSlot_0 {X : Nat × (Nat → Int32)} {al : Bool} {n : Nat} {Q : Option Value → Mem → Prop} {R : Int32 → Mem → Prop} (hR : ∀ v M, R v M → Q (some (.int v)) M) {x0 : Int32} {M : Mem} (h : T_X11_isSlot_0 R False n x0 M) : AW X (RX11, cX11_isSlot, 1, (some .boolean), false, al, n) 0 0 0 [(0, .int x0)] [] M Q := by
  unfold T_X11_isSlot_0 at h
  refine a_iload_n dX11_isSlot_0 rfl rfl ?_
  refine a_i2l dX11_isSlot_1 ?_
  refine a_lconst (v := 0) dX11_isSlot_2 (by decide) ?_
  refine a_ldc2 dX11_isSlot_3 co_X11_281 ?_
  obtain ⟨v1, M2, e3, h⟩ := bnd2_t h
  obtain ⟨n4, en5, e3⟩ := cal_t e3
  refine e_callS (As := [.long (Int32.toInt64 x0), .long 0, .long (3)]) (st := []) false dX11_isSlot_6 mw_X11_isIn (Or.inl ⟨rfl, ml_X11_180⟩) sm_X11_isIn rfl (Nat.le_of_ble_eq_true rfl) en5 (s_X11_isIn e3) ?_
  obtain ⟨gb6, h⟩ := gd_t h
  exact a_zret dX11_isSlot_9 rfl gb6 (hR _ _ h)
noncomputable def b_X11_isSlot (n : Nat) (x0 : Int32) (M : Mem) : Option (Int32 × Mem) := T_X11_isSlot_0 (fun v M => some (v, M)) none n x0 M
set_option maxHeartbeats 4000000 in
set_option maxRecDepth 100000 in
theorem sb_X11_isSlot {X : Nat × (Nat → Int32)} {al : Bool} {n : Nat} {x0 : Int32} {M : Mem} {v : Int32} {M1 : Mem} (h : b_X11_isSlot n x0 M = some (v, M1)) : AE yX11_isSlot cX11_isSlot 1 (some .boolean) al n X [.int x0] M (some (.int v)) M1 := by
  refine AM.of false (by decide +kernel) (by intro h; cases h) (Nat.le_of_ble_eq_true rfl) ?_
  have h2 : T_X11_isSlot_0 (fun v2 M2 => some (v2, M2) = some (v, M1)) (none = some (v, M1)) n x0 M := (n_X11_isSlot_0 (fun o => o = some (v, M1)) (fun v M => some (v, M)) none n x0 M).mp h
  have h3 : ((none : Option (Int32 × Mem)) = some (v, M1)) = False := eq_false (by intro q; cases q)
  rw [h3] at h2
  exact w_X11_isSlot_0 (fun v2 M2 h => by cases h; exact ⟨rfl, rfl⟩) h2

noncomputable abbrev f_X11_isSlot := b_X11_isSlot
theorem s_X11_isSlot {X : Nat × (Nat → Int32)} {al : Bool} {n : Nat} {x0 : Int32} {M : Mem} {v : Int32} {M1 : Mem} (h : f_X11_isSlot n x0 M = some (v, M1)) : AE yX11_isSlot cX11_isSlot 1 (some .boolean) al n X [.int x0] M (some (.int v)) M1 := sb_X11_isSlot h
def ix_X11_meant (c : Nat) : List Nat := if c = 0 then [0, 1] else if c = 7 then [0, 1, 2] else if c = 38 then [0, 1, 2] else []
def PW_X11_meant (X : Nat × (Nat → Int32)) (al : Bool) (n : Nat) (Q : Option Value → Mem → Prop) (c : Nat) (l : List Value) (M : Mem) : Prop := AW X (RX11, cX11_meant, 3, (some .int), false, al, n) 0 0 c (List.zip (ix_X11_meant c) l) (l.drop (ix_X11_meant c).length) M Q
set_option maxHeartbeats 4000000 in
set_option maxRecDepth 100000 in
noncomputable def T_X11_meant_0.{u} {α : Sort u} (J : Nat → List Value → Mem → α) (R : Int32 → Mem → α) (N : α) (n : Nat) (a0 : Nat) (x1 : Int32) (M : Mem) : α := gd (fO M a0 11) N (J 7 [.ref a0, .int x1, .int ((M.2.2.1 a0 39) - 1)] M)
set_option maxHeartbeats 4000000 in
set_option maxRecDepth 100000 in
theorem n_X11_meant_0.{u, v} {α : Sort u} {β : Sort v} (h : α → β) (J : Nat → List Value → Mem → α) (R : Int32 → Mem → α) (N : α) (n : Nat) (a0 : Nat) (x1 : Int32) (M : Mem) : h (T_X11_meant_0 J R N n a0 x1 M) = T_X11_meant_0 (fun c l M => h (J c l M)) (fun v M => h (R v M)) (h N) n a0 x1 M := by
  simp only [T_X11_meant_0, nat_ite h, nat_gd h, nat_bnd h, nat_bnd2 h]
set_option maxHeartbeats 4000000 in
set_option maxRecDepth 100000 in
theorem w_X11_meant_0 {X : Nat × (Nat → Int32)} {al : Bool} {n : Nat} {Q : Option Value → Mem → Prop} {J : Nat → List Value → Mem → Prop} (hJ : ∀ c l M, J c l M → PW_X11_meant X al n Q c l M) {R : Int32 → Mem → Prop} (hR : ∀ v M, R v M → Q (some (.int v)) M) {a0 : Nat} {x1 : Int32} {M : Mem} (h : T_X11_meant_0 J R False n a0 x1 M) : AW X (RX11, cX11_meant, 3, (some .int), false, al, n) 0 0 0 [(0, .ref a0), (1, .int x1)] [] M Q := by
  unfold T_X11_meant_0 at h
  refine a_aload_n dX11_meant_0 rfl rfl ?_
  obtain ⟨⟨ga1, gs2⟩, h⟩ := gd_t h
  refine a_get (v := .int (M.2.2.1 a0 39)) dX11_meant_1 fl_11_247 ga1 gs2 rfl ?_
  refine a_iconst (v := 1) dX11_meant_4 (by decide) ?_
  refine a_isub dX11_meant_5 ?_
  refine a_istore_n dX11_meant_6 rfl (Nat.le_of_ble_eq_true rfl) (lv2 := [(2, .int ((M.2.2.1 a0 39) - 1)), (0, .ref a0), (1, .int x1)]) rfl ?_
  exact a_lv (lv2 := [(0, .ref a0), (1, .int x1), (2, .int ((M.2.2.1 a0 39) - 1))]) (fa_cons rfl (fa_cons rfl (fa_cons rfl fa_nil))) (hJ _ _ _ h)
set_option maxHeartbeats 4000000 in
set_option maxRecDepth 100000 in
noncomputable def T_X11_meant_7.{u} {α : Sort u} (J : Nat → List Value → Mem → α) (R : Int32 → Mem → α) (N : α) (n : Nat) (a0 : Nat) (x1 : Int32) (x2 : Int32) (M : Mem) : α := if x2 < 0 then J 38 [.ref a0, .int x1, .int 0] M else gd (fO M a0 11) N (bnd (M.2.2.2.2 a0 37) N (fun r4 => bnd (M.2.2.2.2 a0 38) N (fun r6 => bnd2 (cal n (fun n => f_X11_isNamed n a0 r4 r6 x2 x1 M)) N (fun v8 M9 => if v8 = 0 then J 7 [.ref a0, .int x1, .int (x2 + (-1))] M9 else R x2 M9))))
set_option maxHeartbeats 4000000 in
set_option maxRecDepth 100000 in
theorem n_X11_meant_7.{u, v} {α : Sort u} {β : Sort v} (h : α → β) (J : Nat → List Value → Mem → α) (R : Int32 → Mem → α) (N : α) (n : Nat) (a0 : Nat) (x1 : Int32) (x2 : Int32) (M : Mem) : h (T_X11_meant_7 J R N n a0 x1 x2 M) = T_X11_meant_7 (fun c l M => h (J c l M)) (fun v M => h (R v M)) (h N) n a0 x1 x2 M := by
  simp only [T_X11_meant_7, nat_ite h, nat_gd h, nat_bnd h, nat_bnd2 h]
set_option maxHeartbeats 4000000 in
set_option maxRecDepth 100000 in
theorem w_X11_meant_7 {X : Nat × (Nat → Int32)} {al : Bool} {n : Nat} {Q : Option Value → Mem → Prop} {J : Nat → List Value → Mem → Prop} (hJ : ∀ c l M, J c l M → PW_X11_meant X al n Q c l M) {R : Int32 → Mem → Prop} (hR : ∀ v M, R v M → Q (some (.int v)) M) {a0 : Nat} {x1 : Int32} {x2 : Int32} {M : Mem} (h : T_X11_meant_7 J R False n a0 x1 x2 M) : AW X (RX11, cX11_meant, 3, (some .int), false, al, n) 0 0 7 [(0, .ref a0), (1, .int x1), (2, .int x2)] [] M Q := by
  unfold T_X11_meant_7 at h
  refine a_iload_n dX11_meant_7 rfl rfl ?_
  refine a_if_lt 36 dX11_meant_8 (by decide) (fun c1 => ?_) (fun c1 => ?_)
  · replace h := ite_t c1 h
    refine a_iconst (v := 0) dX11_meant_36 (by decide) ?_
    refine a_istore_n dX11_meant_37 rfl (Nat.le_of_ble_eq_true rfl) (lv2 := [(2, .int 0), (0, .ref a0), (1, .int x1)]) rfl ?_
    exact a_lv (lv2 := [(0, .ref a0), (1, .int x1), (2, .int 0)]) (fa_cons rfl (fa_cons rfl (fa_cons rfl fa_nil))) (hJ _ _ _ h)
  · replace h := ite_f c1 h
    refine a_aload_n dX11_meant_11 rfl rfl ?_
    refine a_aload_n dX11_meant_12 rfl rfl ?_
    obtain ⟨⟨ga2, gs3⟩, h⟩ := gd_t h
    obtain ⟨r4, e5, h⟩ := bnd_t h
    refine a_get (v := .ref r4) dX11_meant_13 fl_11_81 ga2 gs3 (gvR e5 rfl) ?_
    refine a_aload_n dX11_meant_16 rfl rfl ?_
    obtain ⟨r6, e7, h⟩ := bnd_t h
    refine a_get (v := .ref r6) dX11_meant_17 fl_11_84 ga2 gs3 (gvR e7 rfl) ?_
    refine a_iload_n dX11_meant_20 rfl rfl ?_
    refine a_iload_n dX11_meant_21 rfl rfl ?_
    obtain ⟨v8, M9, e10, h⟩ := bnd2_t h
    obtain ⟨n11, en12, e10⟩ := cal_t e10
    refine e_callV (As := [.ref r4, .ref r6, .int x2, .int x1]) (st := []) (a := a0) (ci := 11) false dX11_meant_22 mw_X11_isNamed (Or.inl ⟨rfl, ml_X11_227⟩) im_X11_isNamed se_X11_isNamed (by decide) ga2 gs3 rfl (Nat.le_of_ble_eq_true rfl) en12 (s_X11_isNamed e10) ?_
    refine a_if_eq 30 dX11_meant_25 (by decide) (fun c13 => ?_) (fun c13 => ?_)
    · replace h := ite_t c13 h
      refine a_iinc (v := (x2 + (-1))) dX11_meant_30 rfl (by first | rfl | decide) (Nat.le_of_ble_eq_true rfl) (lv2 := [(2, .int (x2 + (-1))), (0, .ref a0), (1, .int x1)]) rfl ?_
      refine a_goto 7 dX11_meant_33 (by decide) ?_
      exact a_lv (lv2 := [(0, .ref a0), (1, .int x1), (2, .int (x2 + (-1)))]) (fa_cons rfl (fa_cons rfl (fa_cons rfl fa_nil))) (hJ _ _ _ h)
    · replace h := ite_f c13 h
      refine a_iload_n dX11_meant_28 rfl rfl ?_
      exact a_iret dX11_meant_29 rfl (hR _ _ h)
set_option maxHeartbeats 4000000 in
set_option maxRecDepth 100000 in
noncomputable def T_X11_meant_38.{u} {α : Sort u} (J : Nat → List Value → Mem → α) (R : Int32 → Mem → α) (N : α) (n : Nat) (a0 : Nat) (x1 : Int32) (x2 : Int32) (M : Mem) : α := gd (fO M a0 11) N (if (M.2.2.1 a0 15) ≤ x2 then R (-7) M else bnd (M.2.2.2.2 a0 9) N (fun r4 => bnd (M.2.2.2.2 a0 10) N (fun r6 => bnd2 (cal n (fun n => f_X11_isNamed n a0 r4 r6 x2 x1 M)) N (fun v8 M9 => if v8 = 0 then J 38 [.ref a0, .int x1, .int (x2 + 1)] M9 else R ((-1) - x2) M9))))
set_option maxHeartbeats 4000000 in
set_option maxRecDepth 100000 in
theorem n_X11_meant_38.{u, v} {α : Sort u} {β : Sort v} (h : α → β) (J : Nat → List Value → Mem → α) (R : Int32 → Mem → α) (N : α) (n : Nat) (a0 : Nat) (x1 : Int32) (x2 : Int32) (M : Mem) : h (T_X11_meant_38 J R N n a0 x1 x2 M) = T_X11_meant_38 (fun c l M => h (J c l M)) (fun v M => h (R v M)) (h N) n a0 x1 x2 M := by
  simp only [T_X11_meant_38, nat_ite h, nat_gd h, nat_bnd h, nat_bnd2 h]
set_option maxHeartbeats 4000000 in
set_option maxRecDepth 100000 in
theorem w_X11_meant_38 {X : Nat × (Nat → Int32)} {al : Bool} {n : Nat} {Q : Option Value → Mem → Prop} {J : Nat → List Value → Mem → Prop} (hJ : ∀ c l M, J c l M → PW_X11_meant X al n Q c l M) {R : Int32 → Mem → Prop} (hR : ∀ v M, R v M → Q (some (.int v)) M) {a0 : Nat} {x1 : Int32} {x2 : Int32} {M : Mem} (h : T_X11_meant_38 J R False n a0 x1 x2 M) : AW X (RX11, cX11_meant, 3, (some .int), false, al, n) 0 0 38 [(0, .ref a0), (1, .int x1), (2, .int x2)] [] M Q := by
  unfold T_X11_meant_38 at h
  refine a_iload_n dX11_meant_38 rfl rfl ?_
  refine a_aload_n dX11_meant_39 rfl rfl ?_
  obtain ⟨⟨ga1, gs2⟩, h⟩ := gd_t h
  refine a_get (v := .int (M.2.2.1 a0 15)) dX11_meant_40 fl_11_144 ga1 gs2 rfl ?_
  refine a_icmp_ge 73 dX11_meant_43 (by decide) (fun c3 => ?_) (fun c3 => ?_)
  · replace h := ite_t c3 h
    refine a_bipush (v := -7) dX11_meant_73 (by decide) ?_
    exact a_iret dX11_meant_75 rfl (hR _ _ h)
  · replace h := ite_f c3 h
    refine a_aload_n dX11_meant_46 rfl rfl ?_
    refine a_aload_n dX11_meant_47 rfl rfl ?_
    obtain ⟨r4, e5, h⟩ := bnd_t h
    refine a_get (v := .ref r4) dX11_meant_48 fl_11_32 ga1 gs2 (gvR e5 rfl) ?_
    refine a_aload_n dX11_meant_51 rfl rfl ?_
    obtain ⟨r6, e7, h⟩ := bnd_t h
    refine a_get (v := .ref r6) dX11_meant_52 fl_11_35 ga1 gs2 (gvR e7 rfl) ?_
    refine a_iload_n dX11_meant_55 rfl rfl ?_
    refine a_iload_n dX11_meant_56 rfl rfl ?_
    obtain ⟨v8, M9, e10, h⟩ := bnd2_t h
    obtain ⟨n11, en12, e10⟩ := cal_t e10
    refine e_callV (As := [.ref r4, .ref r6, .int x2, .int x1]) (st := []) (a := a0) (ci := 11) false dX11_meant_57 mw_X11_isNamed (Or.inl ⟨rfl, ml_X11_227⟩) im_X11_isNamed se_X11_isNamed (by decide) ga1 gs2 rfl (Nat.le_of_ble_eq_true rfl) en12 (s_X11_isNamed e10) ?_
    refine a_if_eq 67 dX11_meant_60 (by decide) (fun c13 => ?_) (fun c13 => ?_)
    · replace h := ite_t c13 h
      refine a_iinc (v := (x2 + 1)) dX11_meant_67 rfl (by first | rfl | decide) (Nat.le_of_ble_eq_true rfl) (lv2 := [(2, .int (x2 + 1)), (0, .ref a0), (1, .int x1)]) rfl ?_
      refine a_goto 38 dX11_meant_70 (by decide) ?_
      exact a_lv (lv2 := [(0, .ref a0), (1, .int x1), (2, .int (x2 + 1))]) (fa_cons rfl (fa_cons rfl (fa_cons rfl fa_nil))) (hJ _ _ _ h)
    · replace h := ite_f c13 h
      refine a_iconst (v := -1) dX11_meant_63 (by decide) ?_
      refine a_iload_n dX11_meant_64 rfl rfl ?_
      refine a_isub dX11_meant_65 ?_
      exact a_iret dX11_meant_66 rfl (hR _ _ h)
set_option maxHeartbeats 4000000 in
set_option maxRecDepth 100000 in
noncomputable def st_X11_meant (n : Nat) (s : Sg) : Option (Sg ⊕ (Int32 × Mem)) := if s.1 = 0 then vR s.2.1 none (fun a0 t => vI t none (fun x1 t => vE t none (T_X11_meant_0 (fun c l M => some (.inl (c, l, M))) (fun v M => some (.inr (v, M))) none n a0 x1 s.2.2))) else if s.1 = 7 then vR s.2.1 none (fun a0 t => vI t none (fun x1 t => vI t none (fun x2 t => vE t none (T_X11_meant_7 (fun c l M => some (.inl (c, l, M))) (fun v M => some (.inr (v, M))) none n a0 x1 x2 s.2.2)))) else if s.1 = 38 then vR s.2.1 none (fun a0 t => vI t none (fun x1 t => vI t none (fun x2 t => vE t none (T_X11_meant_38 (fun c l M => some (.inl (c, l, M))) (fun v M => some (.inr (v, M))) none n a0 x1 x2 s.2.2)))) else none
noncomputable abbrev g_X11_meant_0 (n : Nat) (a0 : Nat) (x1 : Int32) (M : Mem) : Option (Int32 × Mem) := lp (st_X11_meant n) (0, [.ref a0, .int x1], M)
set_option maxHeartbeats 4000000 in
set_option maxRecDepth 100000 in
theorem ge_X11_meant_0 (n : Nat) (a0 : Nat) (x1 : Int32) (M : Mem) : g_X11_meant_0 n a0 x1 M = T_X11_meant_0 (fun c l M => lp (st_X11_meant n) (c, l, M)) (fun v M => some (v, M)) none n a0 x1 M := (lp_eq _ _).trans (n_X11_meant_0 (lpK (st_X11_meant n)) (fun c l M => some (.inl (c, l, M))) (fun v M => some (.inr (v, M))) none n a0 x1 M)
noncomputable abbrev g_X11_meant_7 (n : Nat) (a0 : Nat) (x1 : Int32) (x2 : Int32) (M : Mem) : Option (Int32 × Mem) := lp (st_X11_meant n) (7, [.ref a0, .int x1, .int x2], M)
set_option maxHeartbeats 4000000 in
set_option maxRecDepth 100000 in
theorem ge_X11_meant_7 (n : Nat) (a0 : Nat) (x1 : Int32) (x2 : Int32) (M : Mem) : g_X11_meant_7 n a0 x1 x2 M = T_X11_meant_7 (fun c l M => lp (st_X11_meant n) (c, l, M)) (fun v M => some (v, M)) none n a0 x1 x2 M := (lp_eq _ _).trans (n_X11_meant_7 (lpK (st_X11_meant n)) (fun c l M => some (.inl (c, l, M))) (fun v M => some (.inr (v, M))) none n a0 x1 x2 M)
noncomputable abbrev g_X11_meant_38 (n : Nat) (a0 : Nat) (x1 : Int32) (x2 : Int32) (M : Mem) : Option (Int32 × Mem) := lp (st_X11_meant n) (38, [.ref a0, .int x1, .int x2], M)
set_option maxHeartbeats 4000000 in
set_option maxRecDepth 100000 in
theorem ge_X11_meant_38 (n : Nat) (a0 : Nat) (x1 : Int32) (x2 : Int32) (M : Mem) : g_X11_meant_38 n a0 x1 x2 M = T_X11_meant_38 (fun c l M => lp (st_X11_meant n) (c, l, M)) (fun v M => some (v, M)) none n a0 x1 x2 M := (lp_eq _ _).trans (n_X11_meant_38 (lpK (st_X11_meant n)) (fun c l M => some (.inl (c, l, M))) (fun v M => some (.inr (v, M))) none n a0 x1 x2 M)
noncomputable def b_X11_meant (n : Nat) (a0 : Nat) (x1 : Int32) (M : Mem) : Option (Int32 × Mem) := g_X11_meant_0 n a0 x1 M
set_option maxHeartbeats 4000000 in
set_option maxRecDepth 100000 in
theorem sb_X11_meant {X : Nat × (Nat → Int32)} {al : Bool} {n : Nat} {a0 : Nat} {x1 : Int32} {M : Mem} {v : Int32} {M1 : Mem} (h : b_X11_meant n a0 x1 M = some (v, M1)) : AE yX11_meant cX11_meant 3 (some .int) al n X [.ref a0, .int x1] M (some (.int v)) M1 := by
  refine AM.of false (by decide +kernel) (by intro h; cases h) (Nat.le_of_ble_eq_true rfl) ?_
  refine lp_snd (P := fun s r => PW_X11_meant X al n (fun v M2 => v = (some (.int r.1)) ∧ M2 = r.2) s.1 s.2.1 s.2.2) ?_ h
  clear h
  rintro ⟨c, l, M⟩ r h
  unfold st_X11_meant at h
  rcases ite_p h with ⟨e, h⟩ | ⟨e, h⟩
  · replace e : c = 0 := e
    subst e
    obtain ⟨a0, tt0, e, h⟩ := vR_p id h
    replace e : l = _ := e
    subst e
    obtain ⟨x1, tt1, e, h⟩ := vI_p id h
    replace e : tt0 = _ := e
    subst e
    obtain ⟨e, h⟩ := vE_p id h
    replace e : tt1 = [] := e
    subst e
    exact w_X11_meant_0 (J := fun c l M => PW_X11_meant X al n (fun v M2 => v = (some (.int r.1)) ∧ M2 = r.2) c l M) (R := fun v M => (v, M) = r) (fun _ _ _ h => h) (fun v M h => by cases h; exact ⟨rfl, rfl⟩) ((n_X11_meant_0 (lpP (fun (s : Sg) (r : Int32 × Mem) => PW_X11_meant X al n (fun v M2 => v = (some (.int r.1)) ∧ M2 = r.2) s.1 s.2.1 s.2.2) r) (fun c l M => some (.inl (c, l, M))) (fun v M => some (.inr (v, M))) none n a0 x1 M).mp h)
  rcases ite_p h with ⟨e, h⟩ | ⟨e, h⟩
  · replace e : c = 7 := e
    subst e
    obtain ⟨a0, tt0, e, h⟩ := vR_p id h
    replace e : l = _ := e
    subst e
    obtain ⟨x1, tt1, e, h⟩ := vI_p id h
    replace e : tt0 = _ := e
    subst e
    obtain ⟨x2, tt2, e, h⟩ := vI_p id h
    replace e : tt1 = _ := e
    subst e
    obtain ⟨e, h⟩ := vE_p id h
    replace e : tt2 = [] := e
    subst e
    exact w_X11_meant_7 (J := fun c l M => PW_X11_meant X al n (fun v M2 => v = (some (.int r.1)) ∧ M2 = r.2) c l M) (R := fun v M => (v, M) = r) (fun _ _ _ h => h) (fun v M h => by cases h; exact ⟨rfl, rfl⟩) ((n_X11_meant_7 (lpP (fun (s : Sg) (r : Int32 × Mem) => PW_X11_meant X al n (fun v M2 => v = (some (.int r.1)) ∧ M2 = r.2) s.1 s.2.1 s.2.2) r) (fun c l M => some (.inl (c, l, M))) (fun v M => some (.inr (v, M))) none n a0 x1 x2 M).mp h)
  rcases ite_p h with ⟨e, h⟩ | ⟨e, h⟩
  · replace e : c = 38 := e
    subst e
    obtain ⟨a0, tt0, e, h⟩ := vR_p id h
    replace e : l = _ := e
    subst e
    obtain ⟨x1, tt1, e, h⟩ := vI_p id h
    replace e : tt0 = _ := e
    subst e
    obtain ⟨x2, tt2, e, h⟩ := vI_p id h
    replace e : tt1 = _ := e
    subst e
    obtain ⟨e, h⟩ := vE_p id h
    replace e : tt2 = [] := e
    subst e
    exact w_X11_meant_38 (J := fun c l M => PW_X11_meant X al n (fun v M2 => v = (some (.int r.1)) ∧ M2 = r.2) c l M) (R := fun v M => (v, M) = r) (fun _ _ _ h => h) (fun v M h => by cases h; exact ⟨rfl, rfl⟩) ((n_X11_meant_38 (lpP (fun (s : Sg) (r : Int32 × Mem) => PW_X11_meant X al n (fun v M2 => v = (some (.int r.1)) ∧ M2 = r.2) s.1 s.2.1 s.2.2) r) (fun c l M => some (.inl (c, l, M))) (fun v M => some (.inr (v, M))) none n a0 x1 x2 M).mp h)
  · exact h.elim

noncomputable abbrev f_X11_meant := b_X11_meant
theorem s_X11_meant {X : Nat × (Nat → Int32)} {al : Bool} {n : Nat} {a0 : Nat} {x1 : Int32} {M : Mem} {v : Int32} {M1 : Mem} (h : f_X11_meant n a0 x1 M = some (v, M1)) : AE yX11_meant cX11_meant 3 (some .int) al n X [.ref a0, .int x1] M (some (.int v)) M1 := sb_X11_meant h
def ix_X11_adds (c : Nat) : List Nat := if c = 0 then [0, 1, 2, 3] else if c = 22 then [0, 1, 2, 3] else []
def PW_X11_adds (X : Nat × (Nat → Int32)) (al : Bool) (n : Nat) (Q : Option Value → Mem → Prop) (c : Nat) (l : List Value) (M : Mem) : Prop := AW X (RX11, cX11_adds, 4, none, false, al, n) 0 0 c (List.zip (ix_X11_adds c) l) (l.drop (ix_X11_adds c).length) M Q
set_option maxHeartbeats 4000000 in
set_option maxRecDepth 100000 in
noncomputable def T_X11_adds_0.{u} {α : Sort u} (J : Nat → List Value → Mem → α) (R : Unit → Mem → α) (N : α) (n : Nat) (a0 : Nat) (x1 : Int32) (x2 : Int32) (x3 : Int32) (M : Mem) : α := gd (fO M a0 11) N (if (M.2.2.1 a0 30) = 0 then if (M.2.2.1 a0 24) = 120 then bnd2 (cal n (fun n => f_X11_fails n a0 4 x1 M)) N (fun _ M5 => J 22 [.ref a0, .int x1, .int x2, .int x3] M5) else J 22 [.ref a0, .int x1, .int x2, .int x3] M else J 22 [.ref a0, .int x1, .int x2, .int x3] M)
set_option maxHeartbeats 4000000 in
set_option maxRecDepth 100000 in
theorem n_X11_adds_0.{u, v} {α : Sort u} {β : Sort v} (h : α → β) (J : Nat → List Value → Mem → α) (R : Unit → Mem → α) (N : α) (n : Nat) (a0 : Nat) (x1 : Int32) (x2 : Int32) (x3 : Int32) (M : Mem) : h (T_X11_adds_0 J R N n a0 x1 x2 x3 M) = T_X11_adds_0 (fun c l M => h (J c l M)) (fun v M => h (R v M)) (h N) n a0 x1 x2 x3 M := by
  simp only [T_X11_adds_0, nat_ite h, nat_gd h, nat_bnd h, nat_bnd2 h]
set_option maxHeartbeats 4000000 in
set_option maxRecDepth 100000 in
theorem w_X11_adds_0 {X : Nat × (Nat → Int32)} {al : Bool} {n : Nat} {Q : Option Value → Mem → Prop} {J : Nat → List Value → Mem → Prop} (hJ : ∀ c l M, J c l M → PW_X11_adds X al n Q c l M) {R : Unit → Mem → Prop} (hR : ∀ v M, R v M → Q none M) {a0 : Nat} {x1 : Int32} {x2 : Int32} {x3 : Int32} {M : Mem} (h : T_X11_adds_0 J R False n a0 x1 x2 x3 M) : AW X (RX11, cX11_adds, 4, none, false, al, n) 0 0 0 [(0, .ref a0), (1, .int x1), (2, .int x2), (3, .int x3)] [] M Q := by
  unfold T_X11_adds_0 at h
  refine a_aload_n dX11_adds_0 rfl rfl ?_
  obtain ⟨⟨ga1, gs2⟩, h⟩ := gd_t h
  refine a_get (v := .int (M.2.2.1 a0 30)) dX11_adds_1 fl_11_163 ga1 gs2 rfl ?_
  refine a_if_ne 22 dX11_adds_4 (by decide) (fun c3 => ?_) (fun c3 => ?_)
  · replace h := ite_f c3 h
    exact a_lv (lv2 := [(0, .ref a0), (1, .int x1), (2, .int x2), (3, .int x3)]) (fa_cons rfl (fa_cons rfl (fa_cons rfl (fa_cons rfl fa_nil)))) (hJ _ _ _ h)
  · replace h := ite_t c3 h
    refine a_aload_n dX11_adds_7 rfl rfl ?_
    refine a_get (v := .int (M.2.2.1 a0 24)) dX11_adds_8 fl_11_151 ga1 gs2 rfl ?_
    refine a_bipush (v := 120) dX11_adds_11 (by decide) ?_
    refine a_icmp_ne 22 dX11_adds_13 (by decide) (fun c4 => ?_) (fun c4 => ?_)
    · replace h := ite_f c4 h
      exact a_lv (lv2 := [(0, .ref a0), (1, .int x1), (2, .int x2), (3, .int x3)]) (fa_cons rfl (fa_cons rfl (fa_cons rfl (fa_cons rfl fa_nil)))) (hJ _ _ _ h)
    · replace h := ite_t c4 h
      refine a_aload_n dX11_adds_16 rfl rfl ?_
      refine a_iconst (v := 4) dX11_adds_17 (by decide) ?_
      refine a_iload_n dX11_adds_18 rfl rfl ?_
      obtain ⟨_, M5, e6, h⟩ := bnd2_t h
      obtain ⟨n7, en8, e6⟩ := cal_t e6
      refine e_callV (As := [.int 4, .int x1]) (st := []) (a := a0) (ci := 11) false dX11_adds_19 mw_X11_fails (Or.inl ⟨rfl, ml_X11_209⟩) im_X11_fails se_X11_fails (by decide) ga1 gs2 rfl (Nat.le_of_ble_eq_true rfl) en8 (s_X11_fails e6) ?_
      exact a_lv (lv2 := [(0, .ref a0), (1, .int x1), (2, .int x2), (3, .int x3)]) (fa_cons rfl (fa_cons rfl (fa_cons rfl (fa_cons rfl fa_nil)))) (hJ _ _ _ h)
set_option maxHeartbeats 4000000 in
set_option maxRecDepth 100000 in
noncomputable def T_X11_adds_22.{u} {α : Sort u} (J : Nat → List Value → Mem → α) (R : Unit → Mem → α) (N : α) (n : Nat) (a0 : Nat) (x1 : Int32) (x2 : Int32) (x3 : Int32) (M : Mem) : α := gd (fO M a0 11) N (if (M.2.2.1 a0 30) = 0 then bnd (M.2.2.2.2 a0 36) N (fun r4 => gd (fA M r4 1 (M.2.2.1 a0 24)) N (bnd (M.2.2.2.2 a0 20) N (fun r10 => gd (fA M r10 1 ((wI M r4 ((M.2.2.1 a0 24).toNatClampNeg) x1).2.2.1 a0 24)) N (bnd (M.2.2.2.2 a0 21) N (fun r16 => gd (fA M r16 1 ((wI (wI M r4 ((M.2.2.1 a0 24).toNatClampNeg) x1) r10 (((wI M r4 ((M.2.2.1 a0 24).toNatClampNeg) x1).2.2.1 a0 24).toNatClampNeg) x2).2.2.1 a0 24)) N (bnd2 (cal n (fun n => f_X11_lettersHere n a0 (wI (wI (wI (wI M r4 ((M.2.2.1 a0 24).toNatClampNeg) x1) r10 (((wI M r4 ((M.2.2.1 a0 24).toNatClampNeg) x1).2.2.1 a0 24).toNatClampNeg) x2) r16 (((wI (wI M r4 ((M.2.2.1 a0 24).toNatClampNeg) x1) r10 (((wI M r4 ((M.2.2.1 a0 24).toNatClampNeg) x1).2.2.1 a0 24).toNatClampNeg) x2).2.2.1 a0 24).toNatClampNeg) x3) a0 24 (((wI (wI (wI M r4 ((M.2.2.1 a0 24).toNatClampNeg) x1) r10 (((wI M r4 ((M.2.2.1 a0 24).toNatClampNeg) x1).2.2.1 a0 24).toNatClampNeg) x2) r16 (((wI (wI M r4 ((M.2.2.1 a0 24).toNatClampNeg) x1) r10 (((wI M r4 ((M.2.2.1 a0 24).toNatClampNeg) x1).2.2.1 a0 24).toNatClampNeg) x2).2.2.1 a0 24).toNatClampNeg) x3).2.2.1 a0 24) + 1)))) N (fun v22 M23 => gd (fO M23 a0 11) N (R () (wI M23 a0 29 (((wI (wI (wI (wI M r4 ((M.2.2.1 a0 24).toNatClampNeg) x1) r10 (((wI M r4 ((M.2.2.1 a0 24).toNatClampNeg) x1).2.2.1 a0 24).toNatClampNeg) x2) r16 (((wI (wI M r4 ((M.2.2.1 a0 24).toNatClampNeg) x1) r10 (((wI M r4 ((M.2.2.1 a0 24).toNatClampNeg) x1).2.2.1 a0 24).toNatClampNeg) x2).2.2.1 a0 24).toNatClampNeg) x3) a0 24 (((wI (wI (wI M r4 ((M.2.2.1 a0 24).toNatClampNeg) x1) r10 (((wI M r4 ((M.2.2.1 a0 24).toNatClampNeg) x1).2.2.1 a0 24).toNatClampNeg) x2) r16 (((wI (wI M r4 ((M.2.2.1 a0 24).toNatClampNeg) x1) r10 (((wI M r4 ((M.2.2.1 a0 24).toNatClampNeg) x1).2.2.1 a0 24).toNatClampNeg) x2).2.2.1 a0 24).toNatClampNeg) x3).2.2.1 a0 24) + 1)).2.2.1 a0 29) + v22)))))))))) else R () M)
set_option maxHeartbeats 4000000 in
set_option maxRecDepth 100000 in
theorem n_X11_adds_22.{u, v} {α : Sort u} {β : Sort v} (h : α → β) (J : Nat → List Value → Mem → α) (R : Unit → Mem → α) (N : α) (n : Nat) (a0 : Nat) (x1 : Int32) (x2 : Int32) (x3 : Int32) (M : Mem) : h (T_X11_adds_22 J R N n a0 x1 x2 x3 M) = T_X11_adds_22 (fun c l M => h (J c l M)) (fun v M => h (R v M)) (h N) n a0 x1 x2 x3 M := by
  simp only [T_X11_adds_22, nat_ite h, nat_gd h, nat_bnd h, nat_bnd2 h]
set_option maxHeartbeats 4000000 in
set_option maxRecDepth 100000 in
theorem w_X11_adds_22 {X : Nat × (Nat → Int32)} {al : Bool} {n : Nat} {Q : Option Value → Mem → Prop} {J : Nat → List Value → Mem → Prop} (hJ : ∀ c l M, J c l M → PW_X11_adds X al n Q c l M) {R : Unit → Mem → Prop} (hR : ∀ v M, R v M → Q none M) {a0 : Nat} {x1 : Int32} {x2 : Int32} {x3 : Int32} {M : Mem} (h : T_X11_adds_22 J R False n a0 x1 x2 x3 M) : AW X (RX11, cX11_adds, 4, none, false, al, n) 0 0 22 [(0, .ref a0), (1, .int x1), (2, .int x2), (3, .int x3)] [] M Q := by
  unfold T_X11_adds_22 at h
  refine a_aload_n dX11_adds_22 rfl rfl ?_
  obtain ⟨⟨ga1, gs2⟩, h⟩ := gd_t h
  refine a_get (v := .int (M.2.2.1 a0 30)) dX11_adds_23 fl_11_163 ga1 gs2 rfl ?_
  refine a_if_eq 30 dX11_adds_26 (by decide) (fun c3 => ?_) (fun c3 => ?_)
  · replace h := ite_t c3 h
    refine a_aload_n dX11_adds_30 rfl rfl ?_
    obtain ⟨r4, e5, h⟩ := bnd_t h
    refine a_get (v := .ref r4) dX11_adds_31 fl_11_78 ga1 gs2 (gvR e5 rfl) ?_
    refine a_aload_n dX11_adds_34 rfl rfl ?_
    refine a_get (v := .int (M.2.2.1 a0 24)) dX11_adds_35 fl_11_151 ga1 gs2 rfl ?_
    refine a_iload_n dX11_adds_38 rfl rfl ?_
    obtain ⟨⟨ga6, gn7, gs8, gi9⟩, h⟩ := gd_t h
    refine a_iastore dX11_adds_39 ga6 gs8 gi9 ?_
    refine a_aload_n dX11_adds_40 rfl rfl ?_
    obtain ⟨r10, e11, h⟩ := bnd_t h
    refine a_get (v := .ref r10) dX11_adds_41 fl_11_59 ga1 gs2 (gvR e11 rfl) ?_
    refine a_aload_n dX11_adds_44 rfl rfl ?_
    refine a_get (v := .int ((wI M r4 ((M.2.2.1 a0 24).toNatClampNeg) x1).2.2.1 a0 24)) dX11_adds_45 fl_11_151 ga1 gs2 rfl ?_
    refine a_iload_n dX11_adds_48 rfl rfl ?_
    obtain ⟨⟨ga12, gn13, gs14, gi15⟩, h⟩ := gd_t h
    refine a_iastore dX11_adds_49 ga12 gs14 gi15 ?_
    refine a_aload_n dX11_adds_50 rfl rfl ?_
    obtain ⟨r16, e17, h⟩ := bnd_t h
    refine a_get (v := .ref r16) dX11_adds_51 fl_11_62 ga1 gs2 (gvR e17 rfl) ?_
    refine a_aload_n dX11_adds_54 rfl rfl ?_
    refine a_get (v := .int ((wI (wI M r4 ((M.2.2.1 a0 24).toNatClampNeg) x1) r10 (((wI M r4 ((M.2.2.1 a0 24).toNatClampNeg) x1).2.2.1 a0 24).toNatClampNeg) x2).2.2.1 a0 24)) dX11_adds_55 fl_11_151 ga1 gs2 rfl ?_
    refine a_iload_n dX11_adds_58 rfl rfl ?_
    obtain ⟨⟨ga18, gn19, gs20, gi21⟩, h⟩ := gd_t h
    refine a_iastore dX11_adds_59 ga18 gs20 gi21 ?_
    refine a_aload_n dX11_adds_60 rfl rfl ?_
    refine a_dup dX11_adds_61 rfl ?_
    refine a_get (v := .int ((wI (wI (wI M r4 ((M.2.2.1 a0 24).toNatClampNeg) x1) r10 (((wI M r4 ((M.2.2.1 a0 24).toNatClampNeg) x1).2.2.1 a0 24).toNatClampNeg) x2) r16 (((wI (wI M r4 ((M.2.2.1 a0 24).toNatClampNeg) x1) r10 (((wI M r4 ((M.2.2.1 a0 24).toNatClampNeg) x1).2.2.1 a0 24).toNatClampNeg) x2).2.2.1 a0 24).toNatClampNeg) x3).2.2.1 a0 24)) dX11_adds_62 fl_11_151 ga1 gs2 rfl ?_
    refine a_iconst (v := 1) dX11_adds_65 (by decide) ?_
    refine a_iadd dX11_adds_66 ?_
    refine a_putI dX11_adds_67 (Or.inl ⟨fl_11_151, Or.inl rfl⟩) rfl ga1 gs2 rfl rfl ?_
    refine a_aload_n dX11_adds_70 rfl rfl ?_
    refine a_dup dX11_adds_71 rfl ?_
    refine a_get (v := .int ((wI (wI (wI (wI M r4 ((M.2.2.1 a0 24).toNatClampNeg) x1) r10 (((wI M r4 ((M.2.2.1 a0 24).toNatClampNeg) x1).2.2.1 a0 24).toNatClampNeg) x2) r16 (((wI (wI M r4 ((M.2.2.1 a0 24).toNatClampNeg) x1) r10 (((wI M r4 ((M.2.2.1 a0 24).toNatClampNeg) x1).2.2.1 a0 24).toNatClampNeg) x2).2.2.1 a0 24).toNatClampNeg) x3) a0 24 (((wI (wI (wI M r4 ((M.2.2.1 a0 24).toNatClampNeg) x1) r10 (((wI M r4 ((M.2.2.1 a0 24).toNatClampNeg) x1).2.2.1 a0 24).toNatClampNeg) x2) r16 (((wI (wI M r4 ((M.2.2.1 a0 24).toNatClampNeg) x1) r10 (((wI M r4 ((M.2.2.1 a0 24).toNatClampNeg) x1).2.2.1 a0 24).toNatClampNeg) x2).2.2.1 a0 24).toNatClampNeg) x3).2.2.1 a0 24) + 1)).2.2.1 a0 29)) dX11_adds_72 fl_11_157 ga1 gs2 rfl ?_
    refine a_aload_n dX11_adds_75 rfl rfl ?_
    obtain ⟨v22, M23, e24, h⟩ := bnd2_t h
    obtain ⟨n25, en26, e24⟩ := cal_t e24
    refine e_callV (As := []) (st := [.int ((wI (wI (wI (wI M r4 ((M.2.2.1 a0 24).toNatClampNeg) x1) r10 (((wI M r4 ((M.2.2.1 a0 24).toNatClampNeg) x1).2.2.1 a0 24).toNatClampNeg) x2) r16 (((wI (wI M r4 ((M.2.2.1 a0 24).toNatClampNeg) x1) r10 (((wI M r4 ((M.2.2.1 a0 24).toNatClampNeg) x1).2.2.1 a0 24).toNatClampNeg) x2).2.2.1 a0 24).toNatClampNeg) x3) a0 24 (((wI (wI (wI M r4 ((M.2.2.1 a0 24).toNatClampNeg) x1) r10 (((wI M r4 ((M.2.2.1 a0 24).toNatClampNeg) x1).2.2.1 a0 24).toNatClampNeg) x2) r16 (((wI (wI M r4 ((M.2.2.1 a0 24).toNatClampNeg) x1) r10 (((wI M r4 ((M.2.2.1 a0 24).toNatClampNeg) x1).2.2.1 a0 24).toNatClampNeg) x2).2.2.1 a0 24).toNatClampNeg) x3).2.2.1 a0 24) + 1)).2.2.1 a0 29), .ref a0]) (a := a0) (ci := 11) false dX11_adds_76 mw_X11_lettersHere (Or.inl ⟨rfl, ml_X11_184⟩) im_X11_lettersHere se_X11_lettersHere (by decide) ga1 gs2 rfl (Nat.le_of_ble_eq_true rfl) en26 (s_X11_lettersHere e24) ?_
    refine a_iadd dX11_adds_79 ?_
    obtain ⟨⟨ga27, gs28⟩, h⟩ := gd_t h
    refine a_putI dX11_adds_80 (Or.inl ⟨fl_11_157, Or.inl rfl⟩) rfl ga27 gs28 rfl rfl ?_
    exact a_vret dX11_adds_83 rfl (hR _ _ h)
  · replace h := ite_f c3 h
    exact a_vret dX11_adds_29 rfl (hR _ _ h)
set_option maxHeartbeats 4000000 in
set_option maxRecDepth 100000 in
noncomputable def st_X11_adds (n : Nat) (s : Sg) : Option (Sg ⊕ (Unit × Mem)) := if s.1 = 0 then vR s.2.1 none (fun a0 t => vI t none (fun x1 t => vI t none (fun x2 t => vI t none (fun x3 t => vE t none (T_X11_adds_0 (fun c l M => some (.inl (c, l, M))) (fun v M => some (.inr (v, M))) none n a0 x1 x2 x3 s.2.2))))) else if s.1 = 22 then vR s.2.1 none (fun a0 t => vI t none (fun x1 t => vI t none (fun x2 t => vI t none (fun x3 t => vE t none (T_X11_adds_22 (fun c l M => some (.inl (c, l, M))) (fun v M => some (.inr (v, M))) none n a0 x1 x2 x3 s.2.2))))) else none
noncomputable abbrev g_X11_adds_0 (n : Nat) (a0 : Nat) (x1 : Int32) (x2 : Int32) (x3 : Int32) (M : Mem) : Option (Unit × Mem) := lp (st_X11_adds n) (0, [.ref a0, .int x1, .int x2, .int x3], M)
set_option maxHeartbeats 4000000 in
set_option maxRecDepth 100000 in
theorem ge_X11_adds_0 (n : Nat) (a0 : Nat) (x1 : Int32) (x2 : Int32) (x3 : Int32) (M : Mem) : g_X11_adds_0 n a0 x1 x2 x3 M = T_X11_adds_0 (fun c l M => lp (st_X11_adds n) (c, l, M)) (fun v M => some (v, M)) none n a0 x1 x2 x3 M := (lp_eq _ _).trans (n_X11_adds_0 (lpK (st_X11_adds n)) (fun c l M => some (.inl (c, l, M))) (fun v M => some (.inr (v, M))) none n a0 x1 x2 x3 M)
noncomputable abbrev g_X11_adds_22 (n : Nat) (a0 : Nat) (x1 : Int32) (x2 : Int32) (x3 : Int32) (M : Mem) : Option (Unit × Mem) := lp (st_X11_adds n) (22, [.ref a0, .int x1, .int x2, .int x3], M)
set_option maxHeartbeats 4000000 in
set_option maxRecDepth 100000 in
theorem ge_X11_adds_22 (n : Nat) (a0 : Nat) (x1 : Int32) (x2 : Int32) (x3 : Int32) (M : Mem) : g_X11_adds_22 n a0 x1 x2 x3 M = T_X11_adds_22 (fun c l M => lp (st_X11_adds n) (c, l, M)) (fun v M => some (v, M)) none n a0 x1 x2 x3 M := (lp_eq _ _).trans (n_X11_adds_22 (lpK (st_X11_adds n)) (fun c l M => some (.inl (c, l, M))) (fun v M => some (.inr (v, M))) none n a0 x1 x2 x3 M)
noncomputable def b_X11_adds (n : Nat) (a0 : Nat) (x1 : Int32) (x2 : Int32) (x3 : Int32) (M : Mem) : Option (Unit × Mem) := g_X11_adds_0 n a0 x1 x2 x3 M
set_option maxHeartbeats 4000000 in
set_option maxRecDepth 100000 in
theorem sb_X11_adds {X : Nat × (Nat → Int32)} {al : Bool} {n : Nat} {a0 : Nat} {x1 : Int32} {x2 : Int32} {x3 : Int32} {M : Mem} {v : Unit} {M1 : Mem} (h : b_X11_adds n a0 x1 x2 x3 M = some (v, M1)) : AE yX11_adds cX11_adds 4 none al n X [.ref a0, .int x1, .int x2, .int x3] M none M1 := by
  refine AM.of false (by decide +kernel) (by intro h; cases h) (Nat.le_of_ble_eq_true rfl) ?_
  refine lp_snd (P := fun s r => PW_X11_adds X al n (fun v M2 => v = none ∧ M2 = r.2) s.1 s.2.1 s.2.2) ?_ h
  clear h
  rintro ⟨c, l, M⟩ r h
  unfold st_X11_adds at h
  rcases ite_p h with ⟨e, h⟩ | ⟨e, h⟩
  · replace e : c = 0 := e
    subst e
    obtain ⟨a0, tt0, e, h⟩ := vR_p id h
    replace e : l = _ := e
    subst e
    obtain ⟨x1, tt1, e, h⟩ := vI_p id h
    replace e : tt0 = _ := e
    subst e
    obtain ⟨x2, tt2, e, h⟩ := vI_p id h
    replace e : tt1 = _ := e
    subst e
    obtain ⟨x3, tt3, e, h⟩ := vI_p id h
    replace e : tt2 = _ := e
    subst e
    obtain ⟨e, h⟩ := vE_p id h
    replace e : tt3 = [] := e
    subst e
    exact w_X11_adds_0 (J := fun c l M => PW_X11_adds X al n (fun v M2 => v = none ∧ M2 = r.2) c l M) (R := fun v M => (v, M) = r) (fun _ _ _ h => h) (fun v M h => by cases h; exact ⟨rfl, rfl⟩) ((n_X11_adds_0 (lpP (fun (s : Sg) (r : Unit × Mem) => PW_X11_adds X al n (fun v M2 => v = none ∧ M2 = r.2) s.1 s.2.1 s.2.2) r) (fun c l M => some (.inl (c, l, M))) (fun v M => some (.inr (v, M))) none n a0 x1 x2 x3 M).mp h)
  rcases ite_p h with ⟨e, h⟩ | ⟨e, h⟩
  · replace e : c = 22 := e
    subst e
    obtain ⟨a0, tt0, e, h⟩ := vR_p id h
    replace e : l = _ := e
    subst e
    obtain ⟨x1, tt1, e, h⟩ := vI_p id h
    replace e : tt0 = _ := e
    subst e
    obtain ⟨x2, tt2, e, h⟩ := vI_p id h
    replace e : tt1 = _ := e
    subst e
    obtain ⟨x3, tt3, e, h⟩ := vI_p id h
    replace e : tt2 = _ := e
    subst e
    obtain ⟨e, h⟩ := vE_p id h
    replace e : tt3 = [] := e
    subst e
    exact w_X11_adds_22 (J := fun c l M => PW_X11_adds X al n (fun v M2 => v = none ∧ M2 = r.2) c l M) (R := fun v M => (v, M) = r) (fun _ _ _ h => h) (fun v M h => by cases h; exact ⟨rfl, rfl⟩) ((n_X11_adds_22 (lpP (fun (s : Sg) (r : Unit × Mem) => PW_X11_adds X al n (fun v M2 => v = none ∧ M2 = r.2) s.1 s.2.1 s.2.2) r) (fun c l M => some (.inl (c, l, M))) (fun v M => some (.inr (v, M))) none n a0 x1 x2 x3 M).mp h)
  · exact h.elim

noncomputable abbrev f_X11_adds := b_X11_adds
theorem s_X11_adds {X : Nat × (Nat → Int32)} {al : Bool} {n : Nat} {a0 : Nat} {x1 : Int32} {x2 : Int32} {x3 : Int32} {M : Mem} {v : Unit} {M1 : Mem} (h : f_X11_adds n a0 x1 x2 x3 M = some (v, M1)) : AE yX11_adds cX11_adds 4 none al n X [.ref a0, .int x1, .int x2, .int x3] M none M1 := sb_X11_adds h
set_option maxHeartbeats 4000000 in
set_option maxRecDepth 100000 in
noncomputable def T_X11_readName0_0.{u} {α : Sort u} (R : Unit → Mem → α) (N : α) (n : Nat) (a0 : Nat) (x1 : Int32) (x2 : Int32) (M : Mem) : α := gd (fO M a0 11) N (bnd2 (cal n (fun n => f_X11_meant n a0 x2 M)) N (fun v3 M4 => if (-6) ≤ v3 then gd (fO M4 a0 11) N (bnd2 (cal n (fun n => f_X11_adds n a0 x1 0 v3 M4)) N (fun _ M11 => R () M11)) else gd (fO M4 a0 11) N (bnd2 (cal n (fun n => f_X11_fails n a0 3 x1 M4)) N (fun _ M17 => gd (fO M17 a0 11) N (bnd2 (cal n (fun n => f_X11_adds n a0 x1 0 v3 M17)) N (fun _ M23 => R () M23))))))
set_option maxHeartbeats 4000000 in
set_option maxRecDepth 100000 in
theorem n_X11_readName0_0.{u, v} {α : Sort u} {β : Sort v} (h : α → β) (R : Unit → Mem → α) (N : α) (n : Nat) (a0 : Nat) (x1 : Int32) (x2 : Int32) (M : Mem) : h (T_X11_readName0_0 R N n a0 x1 x2 M) = T_X11_readName0_0 (fun v M => h (R v M)) (h N) n a0 x1 x2 M := by
  simp only [T_X11_readName0_0, nat_ite h, nat_gd h, nat_bnd h, nat_bnd2 h]
set_option maxHeartbeats 4000000 in
set_option maxRecDepth 100000 in
theorem w_X11_readName0_0 {X : Nat × (Nat → Int32)} {al : Bool} {n : Nat} {Q : Option Value → Mem → Prop} {R : Unit → Mem → Prop} (hR : ∀ v M, R v M → Q none M) {a0 : Nat} {x1 : Int32} {x2 : Int32} {M : Mem} (h : T_X11_readName0_0 R False n a0 x1 x2 M) : AW X (RX11, cX11_readName0, 4, none, false, al, n) 0 0 0 [(0, .ref a0), (1, .int x1), (2, .int x2)] [] M Q := by
  unfold T_X11_readName0_0 at h
  refine a_aload_n dX11_readName0_0 rfl rfl ?_
  refine a_iload_n dX11_readName0_1 rfl rfl ?_
  obtain ⟨⟨ga1, gs2⟩, h⟩ := gd_t h
  obtain ⟨v3, M4, e5, h⟩ := bnd2_t h
  obtain ⟨n6, en7, e5⟩ := cal_t e5
  refine e_callV (As := [.int x2]) (st := []) (a := a0) (ci := 11) false dX11_readName0_2 mw_X11_meant (Or.inl ⟨rfl, ml_X11_250⟩) im_X11_meant se_X11_meant (by decide) ga1 gs2 rfl (Nat.le_of_ble_eq_true rfl) en7 (s_X11_meant e5) ?_
  refine a_istore_n dX11_readName0_5 rfl (Nat.le_of_ble_eq_true rfl) (lv2 := [(3, .int v3), (0, .ref a0), (1, .int x1), (2, .int x2)]) rfl ?_
  refine a_iload_n dX11_readName0_6 rfl rfl ?_
  refine a_bipush (v := -6) dX11_readName0_7 (by decide) ?_
  refine a_icmp_ge 18 dX11_readName0_9 (by decide) (fun c8 => ?_) (fun c8 => ?_)
  · replace h := ite_t c8 h
    refine a_aload_n dX11_readName0_18 rfl rfl ?_
    refine a_iload_n dX11_readName0_19 rfl rfl ?_
    refine a_iconst (v := 0) dX11_readName0_20 (by decide) ?_
    refine a_iload_n dX11_readName0_21 rfl rfl ?_
    obtain ⟨⟨ga9, gs10⟩, h⟩ := gd_t h
    obtain ⟨_, M11, e12, h⟩ := bnd2_t h
    obtain ⟨n13, en14, e12⟩ := cal_t e12
    refine e_callV (As := [.int x1, .int 0, .int v3]) (st := []) (a := a0) (ci := 11) false dX11_readName0_22 mw_X11_adds (Or.inl ⟨rfl, ml_X11_254⟩) im_X11_adds se_X11_adds (by decide) ga9 gs10 rfl (Nat.le_of_ble_eq_true rfl) en14 (s_X11_adds e12) ?_
    exact a_vret dX11_readName0_25 rfl (hR _ _ h)
  · replace h := ite_f c8 h
    refine a_aload_n dX11_readName0_12 rfl rfl ?_
    refine a_iconst (v := 3) dX11_readName0_13 (by decide) ?_
    refine a_iload_n dX11_readName0_14 rfl rfl ?_
    obtain ⟨⟨ga15, gs16⟩, h⟩ := gd_t h
    obtain ⟨_, M17, e18, h⟩ := bnd2_t h
    obtain ⟨n19, en20, e18⟩ := cal_t e18
    refine e_callV (As := [.int 3, .int x1]) (st := []) (a := a0) (ci := 11) false dX11_readName0_15 mw_X11_fails (Or.inl ⟨rfl, ml_X11_209⟩) im_X11_fails se_X11_fails (by decide) ga15 gs16 rfl (Nat.le_of_ble_eq_true rfl) en20 (s_X11_fails e18) ?_
    refine a_aload_n dX11_readName0_18 rfl rfl ?_
    refine a_iload_n dX11_readName0_19 rfl rfl ?_
    refine a_iconst (v := 0) dX11_readName0_20 (by decide) ?_
    refine a_iload_n dX11_readName0_21 rfl rfl ?_
    obtain ⟨⟨ga21, gs22⟩, h⟩ := gd_t h
    obtain ⟨_, M23, e24, h⟩ := bnd2_t h
    obtain ⟨n25, en26, e24⟩ := cal_t e24
    refine e_callV (As := [.int x1, .int 0, .int v3]) (st := []) (a := a0) (ci := 11) false dX11_readName0_22 mw_X11_adds (Or.inl ⟨rfl, ml_X11_254⟩) im_X11_adds se_X11_adds (by decide) ga21 gs22 rfl (Nat.le_of_ble_eq_true rfl) en26 (s_X11_adds e24) ?_
    exact a_vret dX11_readName0_25 rfl (hR _ _ h)
noncomputable def b_X11_readName0 (n : Nat) (a0 : Nat) (x1 : Int32) (x2 : Int32) (M : Mem) : Option (Unit × Mem) := T_X11_readName0_0 (fun v M => some (v, M)) none n a0 x1 x2 M
set_option maxHeartbeats 4000000 in
set_option maxRecDepth 100000 in
theorem sb_X11_readName0 {X : Nat × (Nat → Int32)} {al : Bool} {n : Nat} {a0 : Nat} {x1 : Int32} {x2 : Int32} {M : Mem} {v : Unit} {M1 : Mem} (h : b_X11_readName0 n a0 x1 x2 M = some (v, M1)) : AE yX11_readName0 cX11_readName0 4 none al n X [.ref a0, .int x1, .int x2] M none M1 := by
  refine AM.of false (by decide +kernel) (by intro h; cases h) (Nat.le_of_ble_eq_true rfl) ?_
  have h2 : T_X11_readName0_0 (fun v2 M2 => some (v2, M2) = some (v, M1)) (none = some (v, M1)) n a0 x1 x2 M := (n_X11_readName0_0 (fun o => o = some (v, M1)) (fun v M => some (v, M)) none n a0 x1 x2 M).mp h
  have h3 : ((none : Option (Unit × Mem)) = some (v, M1)) = False := eq_false (by intro q; cases q)
  rw [h3] at h2
  exact w_X11_readName0_0 (fun v2 M2 h => by cases h; exact ⟨rfl, rfl⟩) h2

noncomputable abbrev f_X11_readName0 := b_X11_readName0
theorem s_X11_readName0 {X : Nat × (Nat → Int32)} {al : Bool} {n : Nat} {a0 : Nat} {x1 : Int32} {x2 : Int32} {M : Mem} {v : Unit} {M1 : Mem} (h : f_X11_readName0 n a0 x1 x2 M = some (v, M1)) : AE yX11_readName0 cX11_readName0 4 none al n X [.ref a0, .int x1, .int x2] M none M1 := sb_X11_readName0 h
def ix_X11_tells0 (c : Nat) : List Nat := if c = 0 then [0] else if c = 57 then [0, 1, 2] else []
def PW_X11_tells0 (X : Nat × (Nat → Int32)) (al : Bool) (n : Nat) (Q : Option Value → Mem → Prop) (c : Nat) (l : List Value) (M : Mem) : Prop := AW X (RX11, cX11_tells0, 3, none, false, al, n) 0 0 c (List.zip (ix_X11_tells0 c) l) (l.drop (ix_X11_tells0 c).length) M Q
set_option maxHeartbeats 4000000 in
set_option maxRecDepth 100000 in
noncomputable def T_X11_tells0_0.{u} {α : Sort u} (J : Nat → List Value → Mem → α) (R : Unit → Mem → α) (N : α) (n : Nat) (a0 : Nat) (M : Mem) : α := gd (fO M a0 11) N (if (M.2.2.1 a0 30) = 0 then bnd2 (cal n (fun n => f_X11_nameHere n a0 M)) N (fun v4 M5 => if v4 = 0 then gd (fO M5 a0 11) N (bnd2 (cal n (fun n => f_X11_fails n a0 1 (M5.2.2.1 a0 29) M5)) N (fun _ M23 => gd (fO M23 a0 11) N (if (M23.2.2.1 a0 30) = 0 then J 57 [.ref a0, .int v4, .int 0] M23 else R () M23))) else gd (fO M5 a0 11) N (if (M5.2.2.1 a0 39) = 24 then bnd2 (cal n (fun n => f_X11_fails n a0 4 (M5.2.2.1 a0 29) M5)) N (fun _ M14 => gd (fO M14 a0 11) N (if (M14.2.2.1 a0 30) = 0 then J 57 [.ref a0, .int v4, .int 0] M14 else R () M14)) else if (M5.2.2.1 a0 30) = 0 then J 57 [.ref a0, .int v4, .int 0] M5 else R () M5)) else R () M)
set_option maxHeartbeats 4000000 in
set_option maxRecDepth 100000 in
theorem n_X11_tells0_0.{u, v} {α : Sort u} {β : Sort v} (h : α → β) (J : Nat → List Value → Mem → α) (R : Unit → Mem → α) (N : α) (n : Nat) (a0 : Nat) (M : Mem) : h (T_X11_tells0_0 J R N n a0 M) = T_X11_tells0_0 (fun c l M => h (J c l M)) (fun v M => h (R v M)) (h N) n a0 M := by
  simp only [T_X11_tells0_0, nat_ite h, nat_gd h, nat_bnd h, nat_bnd2 h]
set_option maxHeartbeats 4000000 in
set_option maxRecDepth 100000 in
theorem w_X11_tells0_0 {X : Nat × (Nat → Int32)} {al : Bool} {n : Nat} {Q : Option Value → Mem → Prop} {J : Nat → List Value → Mem → Prop} (hJ : ∀ c l M, J c l M → PW_X11_tells0 X al n Q c l M) {R : Unit → Mem → Prop} (hR : ∀ v M, R v M → Q none M) {a0 : Nat} {M : Mem} (h : T_X11_tells0_0 J R False n a0 M) : AW X (RX11, cX11_tells0, 3, none, false, al, n) 0 0 0 [(0, .ref a0)] [] M Q := by
  unfold T_X11_tells0_0 at h
  refine a_aload_n dX11_tells0_0 rfl rfl ?_
  obtain ⟨⟨ga1, gs2⟩, h⟩ := gd_t h
  refine a_get (v := .int (M.2.2.1 a0 30)) dX11_tells0_1 fl_11_163 ga1 gs2 rfl ?_
  refine a_if_eq 8 dX11_tells0_4 (by decide) (fun c3 => ?_) (fun c3 => ?_)
  · replace h := ite_t c3 h
    refine a_aload_n dX11_tells0_8 rfl rfl ?_
    obtain ⟨v4, M5, e6, h⟩ := bnd2_t h
    obtain ⟨n7, en8, e6⟩ := cal_t e6
    refine e_callV (As := []) (st := []) (a := a0) (ci := 11) false dX11_tells0_9 mw_X11_nameHere (Or.inl ⟨rfl, ml_X11_221⟩) im_X11_nameHere se_X11_nameHere (by decide) ga1 gs2 rfl (Nat.le_of_ble_eq_true rfl) en8 (s_X11_nameHere e6) ?_
    refine a_istore_n dX11_tells0_12 rfl (Nat.le_of_ble_eq_true rfl) (lv2 := [(1, .int v4), (0, .ref a0)]) rfl ?_
    refine a_iload_n dX11_tells0_13 rfl rfl ?_
    refine a_if_ne 29 dX11_tells0_14 (by decide) (fun c9 => ?_) (fun c9 => ?_)
    · replace h := ite_f c9 h
      refine a_aload_n dX11_tells0_29 rfl rfl ?_
      obtain ⟨⟨ga10, gs11⟩, h⟩ := gd_t h
      refine a_get (v := .int (M5.2.2.1 a0 39)) dX11_tells0_30 fl_11_247 ga10 gs11 rfl ?_
      refine a_bipush (v := 24) dX11_tells0_33 (by decide) ?_
      refine a_icmp_ne 47 dX11_tells0_35 (by decide) (fun c12 => ?_) (fun c12 => ?_)
      · replace h := ite_f c12 h
        refine a_aload_n dX11_tells0_47 rfl rfl ?_
        refine a_get (v := .int (M5.2.2.1 a0 30)) dX11_tells0_48 fl_11_163 ga10 gs11 rfl ?_
        refine a_if_eq 55 dX11_tells0_51 (by decide) (fun c13 => ?_) (fun c13 => ?_)
        · replace h := ite_t c13 h
          refine a_iconst (v := 0) dX11_tells0_55 (by decide) ?_
          refine a_istore_n dX11_tells0_56 rfl (Nat.le_of_ble_eq_true rfl) (lv2 := [(2, .int 0), (1, .int v4), (0, .ref a0)]) rfl ?_
          exact a_lv (lv2 := [(0, .ref a0), (1, .int v4), (2, .int 0)]) (fa_cons rfl (fa_cons rfl (fa_cons rfl fa_nil))) (hJ _ _ _ h)
        · replace h := ite_f c13 h
          exact a_vret dX11_tells0_54 rfl (hR _ _ h)
      · replace h := ite_t c12 h
        refine a_aload_n dX11_tells0_38 rfl rfl ?_
        refine a_iconst (v := 4) dX11_tells0_39 (by decide) ?_
        refine a_aload_n dX11_tells0_40 rfl rfl ?_
        refine a_get (v := .int (M5.2.2.1 a0 29)) dX11_tells0_41 fl_11_157 ga10 gs11 rfl ?_
        obtain ⟨_, M14, e15, h⟩ := bnd2_t h
        obtain ⟨n16, en17, e15⟩ := cal_t e15
        refine e_callV (As := [.int 4, .int (M5.2.2.1 a0 29)]) (st := []) (a := a0) (ci := 11) false dX11_tells0_44 mw_X11_fails (Or.inl ⟨rfl, ml_X11_209⟩) im_X11_fails se_X11_fails (by decide) ga10 gs11 rfl (Nat.le_of_ble_eq_true rfl) en17 (s_X11_fails e15) ?_
        refine a_aload_n dX11_tells0_47 rfl rfl ?_
        obtain ⟨⟨ga18, gs19⟩, h⟩ := gd_t h
        refine a_get (v := .int (M14.2.2.1 a0 30)) dX11_tells0_48 fl_11_163 ga18 gs19 rfl ?_
        refine a_if_eq 55 dX11_tells0_51 (by decide) (fun c20 => ?_) (fun c20 => ?_)
        · replace h := ite_t c20 h
          refine a_iconst (v := 0) dX11_tells0_55 (by decide) ?_
          refine a_istore_n dX11_tells0_56 rfl (Nat.le_of_ble_eq_true rfl) (lv2 := [(2, .int 0), (1, .int v4), (0, .ref a0)]) rfl ?_
          exact a_lv (lv2 := [(0, .ref a0), (1, .int v4), (2, .int 0)]) (fa_cons rfl (fa_cons rfl (fa_cons rfl fa_nil))) (hJ _ _ _ h)
        · replace h := ite_f c20 h
          exact a_vret dX11_tells0_54 rfl (hR _ _ h)
    · replace h := ite_t c9 h
      refine a_aload_n dX11_tells0_17 rfl rfl ?_
      refine a_iconst (v := 1) dX11_tells0_18 (by decide) ?_
      refine a_aload_n dX11_tells0_19 rfl rfl ?_
      obtain ⟨⟨ga21, gs22⟩, h⟩ := gd_t h
      refine a_get (v := .int (M5.2.2.1 a0 29)) dX11_tells0_20 fl_11_157 ga21 gs22 rfl ?_
      obtain ⟨_, M23, e24, h⟩ := bnd2_t h
      obtain ⟨n25, en26, e24⟩ := cal_t e24
      refine e_callV (As := [.int 1, .int (M5.2.2.1 a0 29)]) (st := []) (a := a0) (ci := 11) false dX11_tells0_23 mw_X11_fails (Or.inl ⟨rfl, ml_X11_209⟩) im_X11_fails se_X11_fails (by decide) ga21 gs22 rfl (Nat.le_of_ble_eq_true rfl) en26 (s_X11_fails e24) ?_
      refine a_goto 47 dX11_tells0_26 (by decide) ?_
      refine a_aload_n dX11_tells0_47 rfl rfl ?_
      obtain ⟨⟨ga27, gs28⟩, h⟩ := gd_t h
      refine a_get (v := .int (M23.2.2.1 a0 30)) dX11_tells0_48 fl_11_163 ga27 gs28 rfl ?_
      refine a_if_eq 55 dX11_tells0_51 (by decide) (fun c29 => ?_) (fun c29 => ?_)
      · replace h := ite_t c29 h
        refine a_iconst (v := 0) dX11_tells0_55 (by decide) ?_
        refine a_istore_n dX11_tells0_56 rfl (Nat.le_of_ble_eq_true rfl) (lv2 := [(2, .int 0), (1, .int v4), (0, .ref a0)]) rfl ?_
        exact a_lv (lv2 := [(0, .ref a0), (1, .int v4), (2, .int 0)]) (fa_cons rfl (fa_cons rfl (fa_cons rfl fa_nil))) (hJ _ _ _ h)
      · replace h := ite_f c29 h
        exact a_vret dX11_tells0_54 rfl (hR _ _ h)
  · replace h := ite_f c3 h
    exact a_vret dX11_tells0_7 rfl (hR _ _ h)
set_option maxHeartbeats 4000000 in
set_option maxRecDepth 100000 in
noncomputable def T_X11_tells0_57.{u} {α : Sort u} (J : Nat → List Value → Mem → α) (R : Unit → Mem → α) (N : α) (n : Nat) (a0 : Nat) (x1 : Int32) (x2 : Int32) (M : Mem) : α := if x1 ≤ x2 then gd (fO M a0 11) N (bnd (M.2.2.2.2 a0 38) N (fun r4 => gd (fA M r4 1 (M.2.2.1 a0 39)) N (R () (wI (wI (wI M r4 ((M.2.2.1 a0 39).toNatClampNeg) x1) a0 39 (((wI M r4 ((M.2.2.1 a0 39).toNatClampNeg) x1).2.2.1 a0 39) + 1)) a0 29 (((wI (wI M r4 ((M.2.2.1 a0 39).toNatClampNeg) x1) a0 39 (((wI M r4 ((M.2.2.1 a0 39).toNatClampNeg) x1).2.2.1 a0 39) + 1)).2.2.1 a0 29) + x1))))) else gd (fO M a0 11) N (bnd (M.2.2.2.2 a0 37) N (fun r12 => bnd (M.2.2.2.2 a0 26) N (fun r14 => gd (fA M r14 0 ((M.2.2.1 a0 29) + x2)) N (gd (fA M r12 1 ((4 * (M.2.2.1 a0 39)) + x2)) N (J 57 [.ref a0, .int x1, .int (x2 + 1)] (wI M r12 (((4 * (M.2.2.1 a0 39)) + x2).toNatClampNeg) (M.2.2.1 r14 (((M.2.2.1 a0 29) + x2).toNatClampNeg))))))))
set_option maxHeartbeats 4000000 in
set_option maxRecDepth 100000 in
theorem n_X11_tells0_57.{u, v} {α : Sort u} {β : Sort v} (h : α → β) (J : Nat → List Value → Mem → α) (R : Unit → Mem → α) (N : α) (n : Nat) (a0 : Nat) (x1 : Int32) (x2 : Int32) (M : Mem) : h (T_X11_tells0_57 J R N n a0 x1 x2 M) = T_X11_tells0_57 (fun c l M => h (J c l M)) (fun v M => h (R v M)) (h N) n a0 x1 x2 M := by
  simp only [T_X11_tells0_57, nat_ite h, nat_gd h, nat_bnd h, nat_bnd2 h]
set_option maxHeartbeats 4000000 in
set_option maxRecDepth 100000 in
theorem w_X11_tells0_57 {X : Nat × (Nat → Int32)} {al : Bool} {n : Nat} {Q : Option Value → Mem → Prop} {J : Nat → List Value → Mem → Prop} (hJ : ∀ c l M, J c l M → PW_X11_tells0 X al n Q c l M) {R : Unit → Mem → Prop} (hR : ∀ v M, R v M → Q none M) {a0 : Nat} {x1 : Int32} {x2 : Int32} {M : Mem} (h : T_X11_tells0_57 J R False n a0 x1 x2 M) : AW X (RX11, cX11_tells0, 3, none, false, al, n) 0 0 57 [(0, .ref a0), (1, .int x1), (2, .int x2)] [] M Q := by
  unfold T_X11_tells0_57 at h
  refine a_iload_n dX11_tells0_57 rfl rfl ?_
  refine a_iload_n dX11_tells0_58 rfl rfl ?_
  refine a_icmp_ge 92 dX11_tells0_59 (by decide) (fun c1 => ?_) (fun c1 => ?_)
  · replace h := ite_t c1 h
    refine a_aload_n dX11_tells0_92 rfl rfl ?_
    obtain ⟨⟨ga2, gs3⟩, h⟩ := gd_t h
    obtain ⟨r4, e5, h⟩ := bnd_t h
    refine a_get (v := .ref r4) dX11_tells0_93 fl_11_84 ga2 gs3 (gvR e5 rfl) ?_
    refine a_aload_n dX11_tells0_96 rfl rfl ?_
    refine a_get (v := .int (M.2.2.1 a0 39)) dX11_tells0_97 fl_11_247 ga2 gs3 rfl ?_
    refine a_iload_n dX11_tells0_100 rfl rfl ?_
    obtain ⟨⟨ga6, gn7, gs8, gi9⟩, h⟩ := gd_t h
    refine a_iastore dX11_tells0_101 ga6 gs8 gi9 ?_
    refine a_aload_n dX11_tells0_102 rfl rfl ?_
    refine a_dup dX11_tells0_103 rfl ?_
    refine a_get (v := .int ((wI M r4 ((M.2.2.1 a0 39).toNatClampNeg) x1).2.2.1 a0 39)) dX11_tells0_104 fl_11_247 ga2 gs3 rfl ?_
    refine a_iconst (v := 1) dX11_tells0_107 (by decide) ?_
    refine a_iadd dX11_tells0_108 ?_
    refine a_putI dX11_tells0_109 (Or.inl ⟨fl_11_247, Or.inl rfl⟩) rfl ga2 gs3 rfl rfl ?_
    refine a_aload_n dX11_tells0_112 rfl rfl ?_
    refine a_dup dX11_tells0_113 rfl ?_
    refine a_get (v := .int ((wI (wI M r4 ((M.2.2.1 a0 39).toNatClampNeg) x1) a0 39 (((wI M r4 ((M.2.2.1 a0 39).toNatClampNeg) x1).2.2.1 a0 39) + 1)).2.2.1 a0 29)) dX11_tells0_114 fl_11_157 ga2 gs3 rfl ?_
    refine a_iload_n dX11_tells0_117 rfl rfl ?_
    refine a_iadd dX11_tells0_118 ?_
    refine a_putI dX11_tells0_119 (Or.inl ⟨fl_11_157, Or.inl rfl⟩) rfl ga2 gs3 rfl rfl ?_
    exact a_vret dX11_tells0_122 rfl (hR _ _ h)
  · replace h := ite_f c1 h
    refine a_aload_n dX11_tells0_62 rfl rfl ?_
    obtain ⟨⟨ga10, gs11⟩, h⟩ := gd_t h
    obtain ⟨r12, e13, h⟩ := bnd_t h
    refine a_get (v := .ref r12) dX11_tells0_63 fl_11_81 ga10 gs11 (gvR e13 rfl) ?_
    refine a_iconst (v := 4) dX11_tells0_66 (by decide) ?_
    refine a_aload_n dX11_tells0_67 rfl rfl ?_
    refine a_get (v := .int (M.2.2.1 a0 39)) dX11_tells0_68 fl_11_247 ga10 gs11 rfl ?_
    refine a_imul dX11_tells0_71 ?_
    refine a_iload_n dX11_tells0_72 rfl rfl ?_
    refine a_iadd dX11_tells0_73 ?_
    refine a_aload_n dX11_tells0_74 rfl rfl ?_
    obtain ⟨r14, e15, h⟩ := bnd_t h
    refine a_get (v := .ref r14) dX11_tells0_75 fl_11_71 ga10 gs11 (gvR e15 rfl) ?_
    refine a_aload_n dX11_tells0_78 rfl rfl ?_
    refine a_get (v := .int (M.2.2.1 a0 29)) dX11_tells0_79 fl_11_157 ga10 gs11 rfl ?_
    refine a_iload_n dX11_tells0_82 rfl rfl ?_
    refine a_iadd dX11_tells0_83 ?_
    obtain ⟨⟨ga16, gn17, gs18, gi19⟩, h⟩ := gd_t h
    refine a_baload dX11_tells0_84 (by decide) ga16 gs18 gi19 ?_
    obtain ⟨⟨ga20, gn21, gs22, gi23⟩, h⟩ := gd_t h
    refine a_iastore dX11_tells0_85 ga20 gs22 gi23 ?_
    refine a_iinc (v := (x2 + 1)) dX11_tells0_86 rfl (by first | rfl | decide) (Nat.le_of_ble_eq_true rfl) (lv2 := [(2, .int (x2 + 1)), (0, .ref a0), (1, .int x1)]) rfl ?_
    refine a_goto 57 dX11_tells0_89 (by decide) ?_
    exact a_lv (lv2 := [(0, .ref a0), (1, .int x1), (2, .int (x2 + 1))]) (fa_cons rfl (fa_cons rfl (fa_cons rfl fa_nil))) (hJ _ _ _ h)
set_option maxHeartbeats 4000000 in
set_option maxRecDepth 100000 in
noncomputable def st_X11_tells0 (n : Nat) (s : Sg) : Option (Sg ⊕ (Unit × Mem)) := if s.1 = 0 then vR s.2.1 none (fun a0 t => vE t none (T_X11_tells0_0 (fun c l M => some (.inl (c, l, M))) (fun v M => some (.inr (v, M))) none n a0 s.2.2)) else if s.1 = 57 then vR s.2.1 none (fun a0 t => vI t none (fun x1 t => vI t none (fun x2 t => vE t none (T_X11_tells0_57 (fun c l M => some (.inl (c, l, M))) (fun v M => some (.inr (v, M))) none n a0 x1 x2 s.2.2)))) else none
noncomputable abbrev g_X11_tells0_0 (n : Nat) (a0 : Nat) (M : Mem) : Option (Unit × Mem) := lp (st_X11_tells0 n) (0, [.ref a0], M)
set_option maxHeartbeats 4000000 in
set_option maxRecDepth 100000 in
theorem ge_X11_tells0_0 (n : Nat) (a0 : Nat) (M : Mem) : g_X11_tells0_0 n a0 M = T_X11_tells0_0 (fun c l M => lp (st_X11_tells0 n) (c, l, M)) (fun v M => some (v, M)) none n a0 M := (lp_eq _ _).trans (n_X11_tells0_0 (lpK (st_X11_tells0 n)) (fun c l M => some (.inl (c, l, M))) (fun v M => some (.inr (v, M))) none n a0 M)
noncomputable abbrev g_X11_tells0_57 (n : Nat) (a0 : Nat) (x1 : Int32) (x2 : Int32) (M : Mem) : Option (Unit × Mem) := lp (st_X11_tells0 n) (57, [.ref a0, .int x1, .int x2], M)
set_option maxHeartbeats 4000000 in
set_option maxRecDepth 100000 in
theorem ge_X11_tells0_57 (n : Nat) (a0 : Nat) (x1 : Int32) (x2 : Int32) (M : Mem) : g_X11_tells0_57 n a0 x1 x2 M = T_X11_tells0_57 (fun c l M => lp (st_X11_tells0 n) (c, l, M)) (fun v M => some (v, M)) none n a0 x1 x2 M := (lp_eq _ _).trans (n_X11_tells0_57 (lpK (st_X11_tells0 n)) (fun c l M => some (.inl (c, l, M))) (fun v M => some (.inr (v, M))) none n a0 x1 x2 M)
noncomputable def b_X11_tells0 (n : Nat) (a0 : Nat) (M : Mem) : Option (Unit × Mem) := g_X11_tells0_0 n a0 M
set_option maxHeartbeats 4000000 in
set_option maxRecDepth 100000 in
theorem sb_X11_tells0 {X : Nat × (Nat → Int32)} {al : Bool} {n : Nat} {a0 : Nat} {M : Mem} {v : Unit} {M1 : Mem} (h : b_X11_tells0 n a0 M = some (v, M1)) : AE yX11_tells0 cX11_tells0 3 none al n X [.ref a0] M none M1 := by
  refine AM.of false (by decide +kernel) (by intro h; cases h) (Nat.le_of_ble_eq_true rfl) ?_
  refine lp_snd (P := fun s r => PW_X11_tells0 X al n (fun v M2 => v = none ∧ M2 = r.2) s.1 s.2.1 s.2.2) ?_ h
  clear h
  rintro ⟨c, l, M⟩ r h
  unfold st_X11_tells0 at h
  rcases ite_p h with ⟨e, h⟩ | ⟨e, h⟩
  · replace e : c = 0 := e
    subst e
    obtain ⟨a0, tt0, e, h⟩ := vR_p id h
    replace e : l = _ := e
    subst e
    obtain ⟨e, h⟩ := vE_p id h
    replace e : tt0 = [] := e
    subst e
    exact w_X11_tells0_0 (J := fun c l M => PW_X11_tells0 X al n (fun v M2 => v = none ∧ M2 = r.2) c l M) (R := fun v M => (v, M) = r) (fun _ _ _ h => h) (fun v M h => by cases h; exact ⟨rfl, rfl⟩) ((n_X11_tells0_0 (lpP (fun (s : Sg) (r : Unit × Mem) => PW_X11_tells0 X al n (fun v M2 => v = none ∧ M2 = r.2) s.1 s.2.1 s.2.2) r) (fun c l M => some (.inl (c, l, M))) (fun v M => some (.inr (v, M))) none n a0 M).mp h)
  rcases ite_p h with ⟨e, h⟩ | ⟨e, h⟩
  · replace e : c = 57 := e
    subst e
    obtain ⟨a0, tt0, e, h⟩ := vR_p id h
    replace e : l = _ := e
    subst e
    obtain ⟨x1, tt1, e, h⟩ := vI_p id h
    replace e : tt0 = _ := e
    subst e
    obtain ⟨x2, tt2, e, h⟩ := vI_p id h
    replace e : tt1 = _ := e
    subst e
    obtain ⟨e, h⟩ := vE_p id h
    replace e : tt2 = [] := e
    subst e
    exact w_X11_tells0_57 (J := fun c l M => PW_X11_tells0 X al n (fun v M2 => v = none ∧ M2 = r.2) c l M) (R := fun v M => (v, M) = r) (fun _ _ _ h => h) (fun v M h => by cases h; exact ⟨rfl, rfl⟩) ((n_X11_tells0_57 (lpP (fun (s : Sg) (r : Unit × Mem) => PW_X11_tells0 X al n (fun v M2 => v = none ∧ M2 = r.2) s.1 s.2.1 s.2.2) r) (fun c l M => some (.inl (c, l, M))) (fun v M => some (.inr (v, M))) none n a0 x1 x2 M).mp h)
  · exact h.elim

noncomputable abbrev f_X11_tells0 := b_X11_tells0
theorem s_X11_tells0 {X : Nat × (Nat → Int32)} {al : Bool} {n : Nat} {a0 : Nat} {M : Mem} {v : Unit} {M1 : Mem} (h : f_X11_tells0 n a0 M = some (v, M1)) : AE yX11_tells0 cX11_tells0 3 none al n X [.ref a0] M none M1 := sb_X11_tells0 h
