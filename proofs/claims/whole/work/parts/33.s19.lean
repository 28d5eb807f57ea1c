/-! METHODS AS FUNCTIONS, written by wip/gen/shallow.py -/
set_option maxHeartbeats 4000000 in
set_option maxRecDepth 100000 in
noncomputable def T_X10_spellSlot_0.{u} {α : Sort u} (R : Unit → Mem → α) (N : α) (n : Nat) (a0 : Nat) (x1 : Int32) (x2 : Int32) (x3 : Int32) (M : Mem) : α := gd (fO M a0 10) N (bnd (M.2.2.2.2 a0 7) N (fun r3 => bnd (M.2.2.2.2 a0 5) N (fun r5 => gd (fA M r5 4 x1) N (bnd (M.2.2.2.2 r5 (x1.toNatClampNeg)) N (fun r11 => gd (fO M r3 3) N (bnd2 (cal n (fun n => f_X3_arrange n r3 r11 M)) N (fun _ M15 => gd (fO M15 a0 10) N (bnd (M15.2.2.2.2 a0 9) N (fun r21 => gd (fO M15 r21 8) N (bnd2 (cal n (fun n => f_X8_begin n r21 (Int32.toInt64 x3) M15)) N (fun _ M25 => if x2 = 2 then gd (fO M25 a0 10) N (bnd (M25.2.2.2.2 a0 7) N (fun r51 => gd (fO M25 r51 3) N (bnd2 (cal n (fun n => f_X3_ask n r51 M25)) N (fun v55 M56 => gd (fO M56 a0 10) N (bnd (M56.2.2.2.2 a0 9) N (fun r62 => bnd (M56.2.2.2.2 a0 7) N (fun r64 => gd (fO M56 r64 3) N (bnd2 (cal n (fun n => f_X3_typeOf n r64 0 M56)) N (fun v68 M69 => gd (fO M69 r62 8) N (bnd2 (cal n (fun n => f_X8_putFormula n r62 v68 M69)) N (fun _ M75 => R () M75))))))))))) else gd (fO M25 a0 10) N (bnd (M25.2.2.2.2 a0 9) N (fun r32 => bnd (M25.2.2.2.2 a0 7) N (fun r34 => if x2 = 0 then gd (fO M25 r32 8) N (bnd2 (cal n (fun n => f_X8_putTerm n r32 r34 1 M25)) N (fun _ M45 => R () M45)) else gd (fO M25 r32 8) N (bnd2 (cal n (fun n => f_X8_putTerm n r32 r34 0 M25)) N (fun _ M39 => R () M39))))))))))))))))
set_option maxHeartbeats 4000000 in
set_option maxRecDepth 100000 in
theorem n_X10_spellSlot_0.{u, v} {α : Sort u} {β : Sort v} (h : α → β) (R : Unit → Mem → α) (N : α) (n : Nat) (a0 : Nat) (x1 : Int32) (x2 : Int32) (x3 : Int32) (M : Mem) : h (T_X10_spellSlot_0 R N n a0 x1 x2 x3 M) = T_X10_spellSlot_0 (fun v M => h (R v M)) (h N) n a0 x1 x2 x3 M := by
  simp only [T_X10_spellSlot_0, nat_ite h, nat_gd h, nat_bnd h, nat_bnd2 h]
set_option maxHeartbeats 4000000 in
set_option maxRecDepth 100000 in
theorem w_X10_spellSlot_0 {X : Nat × (Nat → Int32)} {al : Bool} {n : Nat} {Q : Option Value → Mem → Prop} {R : Unit → Mem → Prop} (hR : ∀ v M, R v M → Q none M) {a0 : Nat} {x1 : Int32} {x2 : Int32} {x3 : Int32} {M : Mem} (h : T_X10_spellSlot_0 R False n a0 x1 x2 x3 M) : AW X (RX10, cX10_spellSlot, 4, none, false, al, n) 0 0 0 [(0, .ref a0), (1, .int x1), (2, .int x2), (3, .int x3)] [] M Q := by
  unfold T_X10_spellSlot_0 at h
  refine a_aload_n dX10_spellSlot_0 rfl rfl ?_
  obtain ⟨⟨ga1, gs2⟩, h⟩ := gd_t h
  obtain ⟨r3, e4, h⟩ := bnd_t h
  refine a_get (v := .ref r3) dX10_spellSlot_1 fl_10_52 ga1 gs2 (gvR e4 rfl) ?_
  refine a_aload_n dX10_spellSlot_4 rfl rfl ?_
  obtain ⟨r5, e6, h⟩ := bnd_t h
  refine a_get (v := .ref r5) dX10_spellSlot_5 fl_10_38 ga1 gs2 (gvR e6 rfl) ?_
  refine a_iload_n dX10_spellSlot_8 rfl rfl ?_
  obtain ⟨⟨ga7, gn8, gs9, gi10⟩, h⟩ := gd_t h
  obtain ⟨r11, e12, h⟩ := bnd_t h
  refine a_aaload dX10_spellSlot_9 ga7 gs9 gi10 e12 ?_
  obtain ⟨⟨ga13, gs14⟩, h⟩ := gd_t h
  obtain ⟨_, M15, e16, h⟩ := bnd2_t h
  obtain ⟨n17, en18, e16⟩ := cal_t e16
  refine e_callV (As := [.ref r11]) (st := []) (a := r3) (ci := 3) false dX10_spellSlot_10 mw_X3_arrange (Or.inl ⟨rfl, ml_X10_158⟩) im_X3_arrange se_X3_arrange (by decide) ga13 gs14 rfl (Nat.le_of_ble_eq_true rfl) en18 (s_X3_arrange e16) ?_
  refine a_aload_n dX10_spellSlot_13 rfl rfl ?_
  obtain ⟨⟨ga19, gs20⟩, h⟩ := gd_t h
  obtain ⟨r21, e22, h⟩ := bnd_t h
  refine a_get (v := .ref r21) dX10_spellSlot_14 fl_10_68 ga19 gs20 (gvR e22 rfl) ?_
  refine a_iload_n dX10_spellSlot_17 rfl rfl ?_
  refine a_i2l dX10_spellSlot_18 ?_
  obtain ⟨⟨ga23, gs24⟩, h⟩ := gd_t h
  obtain ⟨_, M25, e26, h⟩ := bnd2_t h
  obtain ⟨n27, en28, e26⟩ := cal_t e26
  refine e_callV (As := [.long (Int32.toInt64 x3)]) (st := []) (a := r21) (ci := 8) false dX10_spellSlot_19 mw_X8_begin (Or.inl ⟨rfl, ml_X10_216⟩) im_X8_begin se_X8_begin (by decide) ga23 gs24 rfl (Nat.le_of_ble_eq_true rfl) en28 (s_X8_begin e26) ?_
  refine a_iload_n dX10_spellSlot_22 rfl rfl ?_
  refine a_iconst (v := 2) dX10_spellSlot_23 (by decide) ?_
  refine a_icmp_ne 53 dX10_spellSlot_24 (by decide) (fun c29 => ?_) (fun c29 => ?_)
  · replace h := ite_f c29 h
    refine a_aload_n dX10_spellSlot_53 rfl rfl ?_
    obtain ⟨⟨ga30, gs31⟩, h⟩ := gd_t h
    obtain ⟨r32, e33, h⟩ := bnd_t h
    refine a_get (v := .ref r32) dX10_spellSlot_54 fl_10_68 ga30 gs31 (gvR e33 rfl) ?_
    refine a_aload_n dX10_spellSlot_57 rfl rfl ?_
    obtain ⟨r34, e35, h⟩ := bnd_t h
    refine a_get (v := .ref r34) dX10_spellSlot_58 fl_10_52 ga30 gs31 (gvR e35 rfl) ?_
    refine a_iload_n dX10_spellSlot_61 rfl rfl ?_
    refine a_if_ne 69 dX10_spellSlot_62 (by decide) (fun c36 => ?_) (fun c36 => ?_)
    · replace h := ite_f c36 h
      refine a_iconst (v := 0) dX10_spellSlot_69 (by decide) ?_
      obtain ⟨⟨ga37, gs38⟩, h⟩ := gd_t h
      obtain ⟨_, M39, e40, h⟩ := bnd2_t h
      obtain ⟨n41, en42, e40⟩ := cal_t e40
      refine e_callV (As := [.ref r34, .int 0]) (st := []) (a := r32) (ci := 8) false dX10_spellSlot_70 mw_X8_putTerm (Or.inl ⟨rfl, ml_X10_226⟩) im_X8_putTerm se_X8_putTerm (by decide) ga37 gs38 rfl (Nat.le_of_ble_eq_true rfl) en42 (s_X8_putTerm e40) ?_
      exact a_vret dX10_spellSlot_73 rfl (hR _ _ h)
    · replace h := ite_t c36 h
      refine a_iconst (v := 1) dX10_spellSlot_65 (by decide) ?_
      refine a_goto 70 dX10_spellSlot_66 (by decide) ?_
      obtain ⟨⟨ga43, gs44⟩, h⟩ := gd_t h
      obtain ⟨_, M45, e46, h⟩ := bnd2_t h
      obtain ⟨n47, en48, e46⟩ := cal_t e46
      refine e_callV (As := [.ref r34, .int 1]) (st := []) (a := r32) (ci := 8) false dX10_spellSlot_70 mw_X8_putTerm (Or.inl ⟨rfl, ml_X10_226⟩) im_X8_putTerm se_X8_putTerm (by decide) ga43 gs44 rfl (Nat.le_of_ble_eq_true rfl) en48 (s_X8_putTerm e46) ?_
      exact a_vret dX10_spellSlot_73 rfl (hR _ _ h)
  · replace h := ite_t c29 h
    refine a_aload_n dX10_spellSlot_27 rfl rfl ?_
    obtain ⟨⟨ga49, gs50⟩, h⟩ := gd_t h
    obtain ⟨r51, e52, h⟩ := bnd_t h
    refine a_get (v := .ref r51) dX10_spellSlot_28 fl_10_52 ga49 gs50 (gvR e52 rfl) ?_
    obtain ⟨⟨ga53, gs54⟩, h⟩ := gd_t h
    obtain ⟨v55, M56, e57, h⟩ := bnd2_t h
    obtain ⟨n58, en59, e57⟩ := cal_t e57
    refine e_callV (As := []) (st := []) (a := r51) (ci := 3) false dX10_spellSlot_31 mw_X3_ask (Or.inl ⟨rfl, ml_X10_162⟩) im_X3_ask se_X3_ask (by decide) ga53 gs54 rfl (Nat.le_of_ble_eq_true rfl) en59 (s_X3_ask e57) ?_
    refine a_pop dX10_spellSlot_34 rfl ?_
    refine a_aload_n dX10_spellSlot_35 rfl rfl ?_
    obtain ⟨⟨ga60, gs61⟩, h⟩ := gd_t h
    obtain ⟨r62, e63, h⟩ := bnd_t h
    refine a_get (v := .ref r62) dX10_spellSlot_36 fl_10_68 ga60 gs61 (gvR e63 rfl) ?_
    refine a_aload_n dX10_spellSlot_39 rfl rfl ?_
    obtain ⟨r64, e65, h⟩ := bnd_t h
    refine a_get (v := .ref r64) dX10_spellSlot_40 fl_10_52 ga60 gs61 (gvR e65 rfl) ?_
    refine a_iconst (v := 0) dX10_spellSlot_43 (by decide) ?_
    obtain ⟨⟨ga66, gs67⟩, h⟩ := gd_t h
    obtain ⟨v68, M69, e70, h⟩ := bnd2_t h
    obtain ⟨n71, en72, e70⟩ := cal_t e70
    refine e_callV (As := [.int 0]) (st := [.ref r62]) (a := r64) (ci := 3) false dX10_spellSlot_44 mw_X3_typeOf (Or.inl ⟨rfl, ml_X10_220⟩) im_X3_typeOf se_X3_typeOf (by decide) ga66 gs67 rfl (Nat.le_of_ble_eq_true rfl) en72 (s_X3_typeOf e70) ?_
    obtain ⟨⟨ga73, gs74⟩, h⟩ := gd_t h
    obtain ⟨_, M75, e76, h⟩ := bnd2_t h
    obtain ⟨n77, en78, e76⟩ := cal_t e76
    refine e_callV (As := [.int v68]) (st := []) (a := r62) (ci := 8) false dX10_spellSlot_47 mw_X8_putFormula (Or.inl ⟨rfl, ml_X10_223⟩) im_X8_putFormula se_X8_putFormula (by decide) ga73 gs74 rfl (Nat.le_of_ble_eq_true rfl) en78 (s_X8_putFormula e76) ?_
    refine a_goto 73 dX10_spellSlot_50 (by decide) ?_
    exact a_vret dX10_spellSlot_73 rfl (hR _ _ h)
noncomputable def b_X10_spellSlot (n : Nat) (a0 : Nat) (x1 : Int32) (x2 : Int32) (x3 : Int32) (M : Mem) : Option (Unit × Mem) := T_X10_spellSlot_0 (fun v M => some (v, M)) none n a0 x1 x2 x3 M
set_option maxHeartbeats 4000000 in
set_option maxRecDepth 100000 in
theorem sb_X10_spellSlot {X : Nat × (Nat → Int32)} {al : Bool} {n : Nat} {a0 : Nat} {x1 : Int32} {x2 : Int32} {x3 : Int32} {M : Mem} {v : Unit} {M1 : Mem} (h : b_X10_spellSlot n a0 x1 x2 x3 M = some (v, M1)) : AE yX10_spellSlot cX10_spellSlot 4 none al n X [.ref a0, .int x1, .int x2, .int x3] M none M1 := by
  refine AM.of false (by decide +kernel) (by intro h; cases h) (Nat.le_of_ble_eq_true rfl) ?_
  have h2 : T_X10_spellSlot_0 (fun v2 M2 => some (v2, M2) = some (v, M1)) (none = some (v, M1)) n a0 x1 x2 x3 M := (n_X10_spellSlot_0 (fun o => o = some (v, M1)) (fun v M => some (v, M)) none n a0 x1 x2 x3 M).mp h
  have h3 : ((none : Option (Unit × Mem)) = some (v, M1)) = False := eq_false (by intro q; cases q)
  rw [h3] at h2
  exact w_X10_spellSlot_0 (fun v2 M2 h => by cases h; exact ⟨rfl, rfl⟩) h2

noncomputable abbrev f_X10_spellSlot := b_X10_spellSlot
theorem s_X10_spellSlot {X : Nat × (Nat → Int32)} {al : Bool} {n : Nat} {a0 : Nat} {x1 : Int32} {x2 : Int32} {x3 : Int32} {M : Mem} {v : Unit} {M1 : Mem} (h : f_X10_spellSlot n a0 x1 x2 x3 M = some (v, M1)) : AE yX10_spellSlot cX10_spellSlot 4 none al n X [.ref a0, .int x1, .int x2, .int x3] M none M1 := sb_X10_spellSlot h
set_option maxHeartbeats 4000000 in
set_option maxRecDepth 100000 in
noncomputable def T_X10_spell_0.{u} {α : Sort u} (R : Int32 → Mem → α) (N : α) (n : Nat) (a0 : Nat) (x1 : Int32) (x2 : Int32) (x3 : Int32) (M : Mem) : α := bnd2 (cal n (fun n => f_X10_noSlot n x1 M)) N (fun v1 M2 => if v1 = 0 then if x2 < 0 then R (-2) M2 else if x2 ≤ 2 then if 0 ≤ x3 then gd (fO M2 a0 10) N (bnd (M2.2.2.2.2 a0 5) N (fun r12 => gd (fA M2 r12 4 x1) N (bnd (M2.2.2.2.2 r12 (x1.toNatClampNeg)) N (fun r18 => gd (fO M2 r18 9) N (if (M2.2.2.1 r18 2) = 0 then R (-5) M2 else bnd2 (cal n (fun n => f_X10_spellSlot n a0 x1 x2 x3 M2)) N (fun _ M23 => gd (fO M23 a0 10) N (bnd (M23.2.2.2.2 a0 9) N (fun r29 => gd (fO M23 r29 8) N (R (M23.2.2.1 r29 4) M23))))))))) else R (-3) M2 else R (-2) M2 else R (-2) M2)
set_option maxHeartbeats 4000000 in
set_option maxRecDepth 100000 in
theorem n_X10_spell_0.{u, v} {α : Sort u} {β : Sort v} (h : α → β) (R : Int32 → Mem → α) (N : α) (n : Nat) (a0 : Nat) (x1 : Int32) (x2 : Int32) (x3 : Int32) (M : Mem) : h (T_X10_spell_0 R N n a0 x1 x2 x3 M) = T_X10_spell_0 (fun v M => h (R v M)) (h N) n a0 x1 x2 x3 M := by
  simp only [T_X10_spell_0, nat_ite h, nat_gd h, nat_bnd h, nat_bnd2 h]
set_option maxHeartbeats 4000000 in
set_option maxRecDepth 100000 in
theorem w_X10_spell_0 {X : Nat × (Nat → Int32)} {al : Bool} {n : Nat} {Q : Option Value → Mem → Prop} {R : Int32 → Mem → Prop} (hR : ∀ v M, R v M → Q (some (.int v)) M) {a0 : Nat} {x1 : Int32} {x2 : Int32} {x3 : Int32} {M : Mem} (h : T_X10_spell_0 R False n a0 x1 x2 x3 M) : AW X (RX10, cX10_spell, 4, (some .int), false, al, n) 0 0 0 [(0, .ref a0), (1, .int x1), (2, .int x2), (3, .int x3)] [] M Q := by
  unfold T_X10_spell_0 at h
  refine a_iload_n dX10_spell_0 rfl rfl ?_
  obtain ⟨v1, M2, e3, h⟩ := bnd2_t h
  obtain ⟨n4, en5, e3⟩ := cal_t e3
  refine e_callS (As := [.int x1]) (st := []) false dX10_spell_1 mw_X10_noSlot (Or.inl ⟨rfl, ml_X10_151⟩) sm_X10_noSlot rfl (Nat.le_of_ble_eq_true rfl) en5 (s_X10_noSlot e3) ?_
  refine a_if_ne 16 dX10_spell_4 (by decide) (fun c6 => ?_) (fun c6 => ?_)
  · replace h := ite_f c6 h
    refine a_bipush (v := -2) dX10_spell_16 (by decide) ?_
    exact a_iret dX10_spell_18 rfl (hR _ _ h)
  · replace h := ite_t c6 h
    refine a_iload_n dX10_spell_7 rfl rfl ?_
    refine a_if_lt 16 dX10_spell_8 (by decide) (fun c7 => ?_) (fun c7 => ?_)
    · replace h := ite_t c7 h
      refine a_bipush (v := -2) dX10_spell_16 (by decide) ?_
      exact a_iret dX10_spell_18 rfl (hR _ _ h)
    · replace h := ite_f c7 h
      refine a_iload_n dX10_spell_11 rfl rfl ?_
      refine a_iconst (v := 2) dX10_spell_12 (by decide) ?_
      refine a_icmp_le 19 dX10_spell_13 (by decide) (fun c8 => ?_) (fun c8 => ?_)
      · replace h := ite_t c8 h
        refine a_iload_n dX10_spell_19 rfl rfl ?_
        refine a_if_ge 26 dX10_spell_20 (by decide) (fun c9 => ?_) (fun c9 => ?_)
        · replace h := ite_t c9 h
          refine a_aload_n dX10_spell_26 rfl rfl ?_
          obtain ⟨⟨ga10, gs11⟩, h⟩ := gd_t h
          obtain ⟨r12, e13, h⟩ := bnd_t h
          refine a_get (v := .ref r12) dX10_spell_27 fl_10_38 ga10 gs11 (gvR e13 rfl) ?_
          refine a_iload_n dX10_spell_30 rfl rfl ?_
          obtain ⟨⟨ga14, gn15, gs16, gi17⟩, h⟩ := gd_t h
          obtain ⟨r18, e19, h⟩ := bnd_t h
          refine a_aaload dX10_spell_31 ga14 gs16 gi17 e19 ?_
          obtain ⟨⟨ga20, gs21⟩, h⟩ := gd_t h
          refine a_getN (v := .int (M2.2.2.1 r18 2)) dX10_spell_32 fn_10_171 ga20 gs21 rfl ?_
          refine a_if_ne 41 dX10_spell_35 (by decide) (fun c22 => ?_) (fun c22 => ?_)
          · replace h := ite_f c22 h
            refine a_aload_n dX10_spell_41 rfl rfl ?_
            refine a_iload_n dX10_spell_42 rfl rfl ?_
            refine a_iload_n dX10_spell_43 rfl rfl ?_
            refine a_iload_n dX10_spell_44 rfl rfl ?_
            obtain ⟨_, M23, e24, h⟩ := bnd2_t h
            obtain ⟨n25, en26, e24⟩ := cal_t e24
            refine e_callV (As := [.int x1, .int x2, .int x3]) (st := []) (a := a0) (ci := 10) false dX10_spell_45 mw_X10_spellSlot (Or.inl ⟨rfl, ml_X10_197⟩) im_X10_spellSlot se_X10_spellSlot (by decide) ga10 gs11 rfl (Nat.le_of_ble_eq_true rfl) en26 (s_X10_spellSlot e24) ?_
            refine a_aload_n dX10_spell_48 rfl rfl ?_
            obtain ⟨⟨ga27, gs28⟩, h⟩ := gd_t h
            obtain ⟨r29, e30, h⟩ := bnd_t h
            refine a_get (v := .ref r29) dX10_spell_49 fl_10_68 ga27 gs28 (gvR e30 rfl) ?_
            obtain ⟨⟨ga31, gs32⟩, h⟩ := gd_t h
            refine a_getN (v := .int (M23.2.2.1 r29 4)) dX10_spell_52 fn_10_201 ga31 gs32 rfl ?_
            exact a_iret dX10_spell_55 rfl (hR _ _ h)
          · replace h := ite_t c22 h
            refine a_bipush (v := -5) dX10_spell_38 (by decide) ?_
            exact a_iret dX10_spell_40 rfl (hR _ _ h)
        · replace h := ite_f c9 h
          refine a_bipush (v := -3) dX10_spell_23 (by decide) ?_
          exact a_iret dX10_spell_25 rfl (hR _ _ h)
      · replace h := ite_f c8 h
        refine a_bipush (v := -2) dX10_spell_16 (by decide) ?_
        exact a_iret dX10_spell_18 rfl (hR _ _ h)
noncomputable def b_X10_spell (n : Nat) (a0 : Nat) (x1 : Int32) (x2 : Int32) (x3 : Int32) (M : Mem) : Option (Int32 × Mem) := T_X10_spell_0 (fun v M => some (v, M)) none n a0 x1 x2 x3 M
set_option maxHeartbeats 4000000 in
set_option maxRecDepth 100000 in
theorem sb_X10_spell {X : Nat × (Nat → Int32)} {al : Bool} {n : Nat} {a0 : Nat} {x1 : Int32} {x2 : Int32} {x3 : Int32} {M : Mem} {v : Int32} {M1 : Mem} (h : b_X10_spell n a0 x1 x2 x3 M = some (v, M1)) : AE yX10_spell cX10_spell 4 (some .int) al n X [.ref a0, .int x1, .int x2, .int x3] M (some (.int v)) M1 := by
  refine AM.of false (by decide +kernel) (by intro h; cases h) (Nat.le_of_ble_eq_true rfl) ?_
  have h2 : T_X10_spell_0 (fun v2 M2 => some (v2, M2) = some (v, M1)) (none = some (v, M1)) n a0 x1 x2 x3 M := (n_X10_spell_0 (fun o => o = some (v, M1)) (fun v M => some (v, M)) none n a0 x1 x2 x3 M).mp h
  have h3 : ((none : Option (Int32 × Mem)) = some (v, M1)) = False := eq_false (by intro q; cases q)
  rw [h3] at h2
  exact w_X10_spell_0 (fun v2 M2 h => by cases h; exact ⟨rfl, rfl⟩) h2

noncomputable abbrev f_X10_spell := b_X10_spell
theorem s_X10_spell {X : Nat × (Nat → Int32)} {al : Bool} {n : Nat} {a0 : Nat} {x1 : Int32} {x2 : Int32} {x3 : Int32} {M : Mem} {v : Int32} {M1 : Mem} (h : f_X10_spell n a0 x1 x2 x3 M = some (v, M1)) : AE yX10_spell cX10_spell 4 (some .int) al n X [.ref a0, .int x1, .int x2, .int x3] M (some (.int v)) M1 := sb_X10_spell h
def ix_X11_takes (c : Nat) : List Nat := if c = 0 then [0, 1] else if c = 21 then [0, 1, 2] else []
def PW_X11_takes (X : Nat × (Nat → Int32)) (al : Bool) (n : Nat) (Q : Option Value → Mem → Prop) (c : Nat) (l : List Value) (M : Mem) : Prop := AW X (RX11, cX11_takes, 3, none, false, al, n) 0 0 c (List.zip (ix_X11_takes c) l) (l.drop (ix_X11_takes c).length) M Q
set_option maxHeartbeats 4000000 in
set_option maxRecDepth 100000 in
noncomputable def T_X11_takes_0.{u} {α : Sort u} (J : Nat → List Value → Mem → α) (R : Unit → Mem → α) (N : α) (n : Nat) (a0 : Nat) (x1 : Int32) (M : Mem) : α := gd (fO M a0 11) N (bnd2 (cal n (fun n => f_X11_tidies n a0 (wI M a0 24 0))) N (fun _ M3 => gd (fO M3 a0 11) N (bnd (M3.2.2.2.2 a0 19) N (fun r9 => gd (fA M3 r9 1 x1) N (J 21 [.ref a0, .int x1, .int 0] (wI M3 a0 24 (M3.2.2.1 r9 (x1.toNatClampNeg))))))))
set_option maxHeartbeats 4000000 in
set_option maxRecDepth 100000 in
theorem n_X11_takes_0.{u, v} {α : Sort u} {β : Sort v} (h : α → β) (J : Nat → List Value → Mem → α) (R : Unit → Mem → α) (N : α) (n : Nat) (a0 : Nat) (x1 : Int32) (M : Mem) : h (T_X11_takes_0 J R N n a0 x1 M) = T_X11_takes_0 (fun c l M => h (J c l M)) (fun v M => h (R v M)) (h N) n a0 x1 M := by
  simp only [T_X11_takes_0, nat_ite h, nat_gd h, nat_bnd h, nat_bnd2 h]
set_option maxHeartbeats 4000000 in
set_option maxRecDepth 100000 in
theorem w_X11_takes_0 {X : Nat × (Nat → Int32)} {al : Bool} {n : Nat} {Q : Option Value → Mem → Prop} {J : Nat → List Value → Mem → Prop} (hJ : ∀ c l M, J c l M → PW_X11_takes X al n Q c l M) {R : Unit → Mem → Prop} (hR : ∀ v M, R v M → Q none M) {a0 : Nat} {x1 : Int32} {M : Mem} (h : T_X11_takes_0 J R False n a0 x1 M) : AW X (RX11, cX11_takes, 3, none, false, al, n) 0 0 0 [(0, .ref a0), (1, .int x1)] [] M Q := by
  unfold T_X11_takes_0 at h
  refine a_aload_n dX11_takes_0 rfl rfl ?_
  refine a_iconst (v := 0) dX11_takes_1 (by decide) ?_
  obtain ⟨⟨ga1, gs2⟩, h⟩ := gd_t h
  refine a_putI dX11_takes_2 (Or.inl ⟨fl_11_151, Or.inl rfl⟩) rfl ga1 gs2 rfl rfl ?_
  refine a_aload_n dX11_takes_5 rfl rfl ?_
  obtain ⟨_, M3, e4, h⟩ := bnd2_t h
  obtain ⟨n5, en6, e4⟩ := cal_t e4
  refine e_callV (As := []) (st := []) (a := a0) (ci := 11) false dX11_takes_6 mw_X11_tidies (Or.inl ⟨rfl, ml_X11_198⟩) im_X11_tidies se_X11_tidies (by decide) ga1 gs2 rfl (Nat.le_of_ble_eq_true rfl) en6 (s_X11_tidies e4) ?_
  refine a_aload_n dX11_takes_9 rfl rfl ?_
  refine a_aload_n dX11_takes_10 rfl rfl ?_
  obtain ⟨⟨ga7, gs8⟩, h⟩ := gd_t h
  obtain ⟨r9, e10, h⟩ := bnd_t h
  refine a_get (v := .ref r9) dX11_takes_11 fl_11_56 ga7 gs8 (gvR e10 rfl) ?_
  refine a_iload_n dX11_takes_14 rfl rfl ?_
  obtain ⟨⟨ga11, gn12, gs13, gi14⟩, h⟩ := gd_t h
  refine a_iaload dX11_takes_15 ga11 gs13 gi14 ?_
  refine a_putI dX11_takes_16 (Or.inl ⟨fl_11_151, Or.inl rfl⟩) rfl ga7 gs8 rfl rfl ?_
  refine a_iconst (v := 0) dX11_takes_19 (by decide) ?_
  refine a_istore_n dX11_takes_20 rfl (Nat.le_of_ble_eq_true rfl) (lv2 := [(2, .int 0), (0, .ref a0), (1, .int x1)]) rfl ?_
  exact a_lv (lv2 := [(0, .ref a0), (1, .int x1), (2, .int 0)]) (fa_cons rfl (fa_cons rfl (fa_cons rfl fa_nil))) (hJ _ _ _ h)
set_option maxHeartbeats 4000000 in
set_option maxRecDepth 100000 in
noncomputable def T_X11_takes_21.{u} {α : Sort u} (J : Nat → List Value → Mem → α) (R : Unit → Mem → α) (N : α) (n : Nat) (a0 : Nat) (x1 : Int32) (x2 : Int32) (M : Mem) : α := gd (fO M a0 11) N (if (M.2.2.1 a0 24) ≤ x2 then R () M else bnd (M.2.2.2.2 a0 20) N (fun r4 => bnd (M.2.2.2.2 a0 17) N (fun r6 => gd (fA M r6 1 ((200 * x1) + x2)) N (gd (fA M r4 1 x2) N (bnd (M.2.2.2.2 a0 21) N (fun r16 => bnd (M.2.2.2.2 a0 18) N (fun r18 => gd (fA M r18 1 ((200 * x1) + x2)) N (gd (fA M r16 1 x2) N (J 21 [.ref a0, .int x1, .int (x2 + 1)] (wI (wI M r4 (x2.toNatClampNeg) (M.2.2.1 r6 (((200 * x1) + x2).toNatClampNeg))) r16 (x2.toNatClampNeg) ((wI M r4 (x2.toNatClampNeg) (M.2.2.1 r6 (((200 * x1) + x2).toNatClampNeg))).2.2.1 r18 (((200 * x1) + x2).toNatClampNeg))))))))))))
set_option maxHeartbeats 4000000 in
set_option maxRecDepth 100000 in
theorem n_X11_takes_21.{u, v} {α : Sort u} {β : Sort v} (h : α → β) (J : Nat → List Value → Mem → α) (R : Unit → Mem → α) (N : α) (n : Nat) (a0 : Nat) (x1 : Int32) (x2 : Int32) (M : Mem) : h (T_X11_takes_21 J R N n a0 x1 x2 M) = T_X11_takes_21 (fun c l M => h (J c l M)) (fun v M => h (R v M)) (h N) n a0 x1 x2 M := by
  simp only [T_X11_takes_21, nat_ite h, nat_gd h, nat_bnd h, nat_bnd2 h]
set_option maxHeartbeats 4000000 in
set_option maxRecDepth 100000 in
theorem w_X11_takes_21 {X : Nat × (Nat → Int32)} {al : Bool} {n : Nat} {Q : Option Value → Mem → Prop} {J : Nat → List Value → Mem → Prop} (hJ : ∀ c l M, J c l M → PW_X11_takes X al n Q c l M) {R : Unit → Mem → Prop} (hR : ∀ v M, R v M → Q none M) {a0 : Nat} {x1 : Int32} {x2 : Int32} {M : Mem} (h : T_X11_takes_21 J R False n a0 x1 x2 M) : AW X (RX11, cX11_takes, 3, none, false, al, n) 0 0 21 [(0, .ref a0), (1, .int x1), (2, .int x2)] [] M Q := by
  unfold T_X11_takes_21 at h
  refine a_iload_n dX11_takes_21 rfl rfl ?_
  refine a_aload_n dX11_takes_22 rfl rfl ?_
  obtain ⟨⟨ga1, gs2⟩, h⟩ := gd_t h
  refine a_get (v := .int (M.2.2.1 a0 24)) dX11_takes_23 fl_11_151 ga1 gs2 rfl ?_
  refine a_icmp_ge 71 dX11_takes_26 (by decide) (fun c3 => ?_) (fun c3 => ?_)
  · replace h := ite_t c3 h
    exact a_vret dX11_takes_71 rfl (hR _ _ h)
  · replace h := ite_f c3 h
    refine a_aload_n dX11_takes_29 rfl rfl ?_
    obtain ⟨r4, e5, h⟩ := bnd_t h
    refine a_get (v := .ref r4) dX11_takes_30 fl_11_59 ga1 gs2 (gvR e5 rfl) ?_
    refine a_iload_n dX11_takes_33 rfl rfl ?_
    refine a_aload_n dX11_takes_34 rfl rfl ?_
    obtain ⟨r6, e7, h⟩ := bnd_t h
    refine a_get (v := .ref r6) dX11_takes_35 fl_11_50 ga1 gs2 (gvR e7 rfl) ?_
    refine a_sipush (v := 200) dX11_takes_38 (by decide) ?_
    refine a_iload_n dX11_takes_41 rfl rfl ?_
    refine a_imul dX11_takes_42 ?_
    refine a_iload_n dX11_takes_43 rfl rfl ?_
    refine a_iadd dX11_takes_44 ?_
    obtain ⟨⟨ga8, gn9, gs10, gi11⟩, h⟩ := gd_t h
    refine a_iaload dX11_takes_45 ga8 gs10 gi11 ?_
    obtain ⟨⟨ga12, gn13, gs14, gi15⟩, h⟩ := gd_t h
    refine a_iastore dX11_takes_46 ga12 gs14 gi15 ?_
    refine a_aload_n dX11_takes_47 rfl rfl ?_
    obtain ⟨r16, e17, h⟩ := bnd_t h
    refine a_get (v := .ref r16) dX11_takes_48 fl_11_62 ga1 gs2 (gvR e17 rfl) ?_
    refine a_iload_n dX11_takes_51 rfl rfl ?_
    refine a_aload_n dX11_takes_52 rfl rfl ?_
    obtain ⟨r18, e19, h⟩ := bnd_t h
    refine a_get (v := .ref r18) dX11_takes_53 fl_11_53 ga1 gs2 (gvR e19 rfl) ?_
    refine a_sipush (v := 200) dX11_takes_56 (by decide) ?_
    refine a_iload_n dX11_takes_59 rfl rfl ?_
    refine a_imul dX11_takes_60 ?_
    refine a_iload_n dX11_takes_61 rfl rfl ?_
    refine a_iadd dX11_takes_62 ?_
    obtain ⟨⟨ga20, gn21, gs22, gi23⟩, h⟩ := gd_t h
    refine a_iaload dX11_takes_63 ga20 gs22 gi23 ?_
    obtain ⟨⟨ga24, gn25, gs26, gi27⟩, h⟩ := gd_t h
    refine a_iastore dX11_takes_64 ga24 gs26 gi27 ?_
    refine a_iinc (v := (x2 + 1)) dX11_takes_65 rfl (by first | rfl | decide) (Nat.le_of_ble_eq_true rfl) (lv2 := [(2, .int (x2 + 1)), (0, .ref a0), (1, .int x1)]) rfl ?_
    refine a_goto 21 dX11_takes_68 (by decide) ?_
    exact a_lv (lv2 := [(0, .ref a0), (1, .int x1), (2, .int (x2 + 1))]) (fa_cons rfl (fa_cons rfl (fa_cons rfl fa_nil))) (hJ _ _ _ h)
set_option maxHeartbeats 4000000 in
set_option maxRecDepth 100000 in
noncomputable def st_X11_takes (n : Nat) (s : Sg) : Option (Sg ⊕ (Unit × Mem)) := if s.1 = 0 then vR s.2.1 none (fun a0 t => vI t none (fun x1 t => vE t none (T_X11_takes_0 (fun c l M => some (.inl (c, l, M))) (fun v M => some (.inr (v, M))) none n a0 x1 s.2.2))) else if s.1 = 21 then vR s.2.1 none (fun a0 t => vI t none (fun x1 t => vI t none (fun x2 t => vE t none (T_X11_takes_21 (fun c l M => some (.inl (c, l, M))) (fun v M => some (.inr (v, M))) none n a0 x1 x2 s.2.2)))) else none
noncomputable abbrev g_X11_takes_0 (n : Nat) (a0 : Nat) (x1 : Int32) (M : Mem) : Option (Unit × Mem) := lp (st_X11_takes n) (0, [.ref a0, .int x1], M)
set_option maxHeartbeats 4000000 in
set_option maxRecDepth 100000 in
theorem ge_X11_takes_0 (n : Nat) (a0 : Nat) (x1 : Int32) (M : Mem) : g_X11_takes_0 n a0 x1 M = T_X11_takes_0 (fun c l M => lp (st_X11_takes n) (c, l, M)) (fun v M => some (v, M)) none n a0 x1 M := (lp_eq _ _).trans (n_X11_takes_0 (lpK (st_X11_takes n)) (fun c l M => some (.inl (c, l, M))) (fun v M => some (.inr (v, M))) none n a0 x1 M)
noncomputable abbrev g_X11_takes_21 (n : Nat) (a0 : Nat) (x1 : Int32) (x2 : Int32) (M : Mem) : Option (Unit × Mem) := lp (st_X11_takes n) (21, [.ref a0, .int x1, .int x2], M)
set_option maxHeartbeats 4000000 in
set_option maxRecDepth 100000 in
theorem ge_X11_takes_21 (n : Nat) (a0 : Nat) (x1 : Int32) (x2 : Int32) (M : Mem) : g_X11_takes_21 n a0 x1 x2 M = T_X11_takes_21 (fun c l M => lp (st_X11_takes n) (c, l, M)) (fun v M => some (v, M)) none n a0 x1 x2 M := (lp_eq _ _).trans (n_X11_takes_21 (lpK (st_X11_takes n)) (fun c l M => some (.inl (c, l, M))) (fun v M => some (.inr (v, M))) none n a0 x1 x2 M)
noncomputable def b_X11_takes (n : Nat) (a0 : Nat) (x1 : Int32) (M : Mem) : Option (Unit × Mem) := g_X11_takes_0 n a0 x1 M
set_option maxHeartbeats 4000000 in
set_option maxRecDepth 100000 in
theorem sb_X11_takes {X : Nat × (Nat → Int32)} {al : Bool} {n : Nat} {a0 : Nat} {x1 : Int32} {M : Mem} {v : Unit} {M1 : Mem} (h : b_X11_takes n a0 x1 M = some (v, M1)) : AE yX11_takes cX11_takes 3 none al n X [.ref a0, .int x1] M none M1 := by
  refine AM.of false (by decide +kernel) (by intro h; cases h) (Nat.le_of_ble_eq_true rfl) ?_
  refine lp_snd (P := fun s r => PW_X11_takes X al n (fun v M2 => v = none ∧ M2 = r.2) s.1 s.2.1 s.2.2) ?_ h
  clear h
  rintro ⟨c, l, M⟩ r h
  unfold st_X11_takes at h
  rcases ite_p h with ⟨e, h⟩ | ⟨e, h⟩
  · replace e : c = 0 := e
    subst e
    obtain ⟨a0, tt0, e, h⟩ := vR_p id h
    replace e : l = _ := e
    subst e
    obtain ⟨x1, tt1, e, h⟩ := vI_p id h
    replace e : tt0 = _ := e
    subst e
    obtain ⟨e, h⟩ := vE_p id h
    replace e : tt1 = [] := e
    subst e
    exact w_X11_takes_0 (J := fun c l M => PW_X11_takes X al n (fun v M2 => v = none ∧ M2 = r.2) c l M) (R := fun v M => (v, M) = r) (fun _ _ _ h => h) (fun v M h => by cases h; exact ⟨rfl, rfl⟩) ((n_X11_takes_0 (lpP (fun (s : Sg) (r : Unit × Mem) => PW_X11_takes X al n (fun v M2 => v = none ∧ M2 = r.2) s.1 s.2.1 s.2.2) r) (fun c l M => some (.inl (c, l, M))) (fun v M => some (.inr (v, M))) none n a0 x1 M).mp h)
  rcases ite_p h with ⟨e, h⟩ | ⟨e, h⟩
  · replace e : c = 21 := e
    subst e
    obtain ⟨a0, tt0, e, h⟩ := vR_p id h
    replace e : l = _ := e
    subst e
    obtain ⟨x1, tt1, e, h⟩ := vI_p id h
    replace e : tt0 = _ := e
    subst e
    obtain ⟨x2, tt2, e, h⟩ := vI_p id h
    replace e : tt1 = _ := e
    subst e
    obtain ⟨e, h⟩ := vE_p id h
    replace e : tt2 = [] := e
    subst e
    exact w_X11_takes_21 (J := fun c l M => PW_X11_takes X al n (fun v M2 => v = none ∧ M2 = r.2) c l M) (R := fun v M => (v, M) = r) (fun _ _ _ h => h) (fun v M h => by cases h; exact ⟨rfl, rfl⟩) ((n_X11_takes_21 (lpP (fun (s : Sg) (r : Unit × Mem) => PW_X11_takes X al n (fun v M2 => v = none ∧ M2 = r.2) s.1 s.2.1 s.2.2) r) (fun c l M => some (.inl (c, l, M))) (fun v M => some (.inr (v, M))) none n a0 x1 x2 M).mp h)
  · exact h.elim

noncomputable abbrev f_X11_takes := b_X11_takes
theorem s_X11_takes {X : Nat × (Nat → Int32)} {al : Bool} {n : Nat} {a0 : Nat} {x1 : Int32} {M : Mem} {v : Unit} {M1 : Mem} (h : f_X11_takes n a0 x1 M = some (v, M1)) : AE yX11_takes cX11_takes 3 none al n X [.ref a0, .int x1] M none M1 := sb_X11_takes h
def ix_X11_tellsLevel (c : Nat) : List Nat := if c = 0 then [0, 1] else if c = 21 then [0, 1, 2] else if c = 39 then [0, 1, 3] else []
def PW_X11_tellsLevel (X : Nat × (Nat → Int32)) (al : Bool) (n : Nat) (Q : Option Value → Mem → Prop) (c : Nat) (l : List Value) (M : Mem) : Prop := AW X (RX11, cX11_tellsLevel, 4, none, false, al, n) 0 0 c (List.zip (ix_X11_tellsLevel c) l) (l.drop (ix_X11_tellsLevel c).length) M Q
set_option maxHeartbeats 4000000 in
set_option maxRecDepth 100000 in
noncomputable def T_X11_tellsLevel_0.{u} {α : Sort u} (J : Nat → List Value → Mem → α) (R : Unit → Mem → α) (N : α) (n : Nat) (a0 : Nat) (x1 : Int32) (M : Mem) : α := gd (fO M a0 11) N (if (M.2.2.1 a0 48) ≤ 0 then bnd2 (cal n (fun n => f_X11_tells n a0 120 M)) N (fun _ M4 => J 21 [.ref a0, .int x1, .int 1] M4) else bnd2 (cal n (fun n => f_X11_tells n a0 32 M)) N (fun _ M8 => gd (fO M8 a0 11) N (bnd2 (cal n (fun n => f_X11_tells n a0 120 M8)) N (fun _ M14 => J 21 [.ref a0, .int x1, .int 1] M14))))
set_option maxHeartbeats 4000000 in
set_option maxRecDepth 100000 in
theorem n_X11_tellsLevel_0.{u, v} {α : Sort u} {β : Sort v} (h : α → β) (J : Nat → List Value → Mem → α) (R : Unit → Mem → α) (N : α) (n : Nat) (a0 : Nat) (x1 : Int32) (M : Mem) : h (T_X11_tellsLevel_0 J R N n a0 x1 M) = T_X11_tellsLevel_0 (fun c l M => h (J c l M)) (fun v M => h (R v M)) (h N) n a0 x1 M := by
  simp only [T_X11_tellsLevel_0, nat_ite h, nat_gd h, nat_bnd h, nat_bnd2 h]
set_option maxHeartbeats 4000000 in
set_option maxRecDepth 100000 in
theorem w_X11_tellsLevel_0 {X : Nat × (Nat → Int32)} {al : Bool} {n : Nat} {Q : Option Value → Mem → Prop} {J : Nat → List Value → Mem → Prop} (hJ : ∀ c l M, J c l M → PW_X11_tellsLevel X al n Q c l M) {R : Unit → Mem → Prop} (hR : ∀ v M, R v M → Q none M) {a0 : Nat} {x1 : Int32} {M : Mem} (h : T_X11_tellsLevel_0 J R False n a0 x1 M) : AW X (RX11, cX11_tellsLevel, 4, none, false, al, n) 0 0 0 [(0, .ref a0), (1, .int x1)] [] M Q := by
  unfold T_X11_tellsLevel_0 at h
  refine a_aload_n dX11_tellsLevel_0 rfl rfl ?_
  obtain ⟨⟨ga1, gs2⟩, h⟩ := gd_t h
  refine a_get (v := .int (M.2.2.1 a0 48)) dX11_tellsLevel_1 fl_11_361 ga1 gs2 rfl ?_
  refine a_if_le 13 dX11_tellsLevel_4 (by decide) (fun c3 => ?_) (fun c3 => ?_)
  · replace h := ite_t c3 h
    refine a_aload_n dX11_tellsLevel_13 rfl rfl ?_
    refine a_bipush (v := 120) dX11_tellsLevel_14 (by decide) ?_
    obtain ⟨_, M4, e5, h⟩ := bnd2_t h
    obtain ⟨n6, en7, e5⟩ := cal_t e5
    refine e_callV (As := [.int 120]) (st := []) (a := a0) (ci := 11) false dX11_tellsLevel_16 mw_X11_tells (Or.inl ⟨rfl, ml_X11_370⟩) im_X11_tells se_X11_tells (by decide) ga1 gs2 rfl (Nat.le_of_ble_eq_true rfl) en7 (s_X11_tells e5) ?_
    refine a_iconst (v := 1) dX11_tellsLevel_19 (by decide) ?_
    refine a_istore_n dX11_tellsLevel_20 rfl (Nat.le_of_ble_eq_true rfl) (lv2 := [(2, .int 1), (0, .ref a0), (1, .int x1)]) rfl ?_
    exact a_lv (lv2 := [(0, .ref a0), (1, .int x1), (2, .int 1)]) (fa_cons rfl (fa_cons rfl (fa_cons rfl fa_nil))) (hJ _ _ _ h)
  · replace h := ite_f c3 h
    refine a_aload_n dX11_tellsLevel_7 rfl rfl ?_
    refine a_bipush (v := 32) dX11_tellsLevel_8 (by decide) ?_
    obtain ⟨_, M8, e9, h⟩ := bnd2_t h
    obtain ⟨n10, en11, e9⟩ := cal_t e9
    refine e_callV (As := [.int 32]) (st := []) (a := a0) (ci := 11) false dX11_tellsLevel_10 mw_X11_tells (Or.inl ⟨rfl, ml_X11_370⟩) im_X11_tells se_X11_tells (by decide) ga1 gs2 rfl (Nat.le_of_ble_eq_true rfl) en11 (s_X11_tells e9) ?_
    refine a_aload_n dX11_tellsLevel_13 rfl rfl ?_
    refine a_bipush (v := 120) dX11_tellsLevel_14 (by decide) ?_
    obtain ⟨⟨ga12, gs13⟩, h⟩ := gd_t h
    obtain ⟨_, M14, e15, h⟩ := bnd2_t h
    obtain ⟨n16, en17, e15⟩ := cal_t e15
    refine e_callV (As := [.int 120]) (st := []) (a := a0) (ci := 11) false dX11_tellsLevel_16 mw_X11_tells (Or.inl ⟨rfl, ml_X11_370⟩) im_X11_tells se_X11_tells (by decide) ga12 gs13 rfl (Nat.le_of_ble_eq_true rfl) en17 (s_X11_tells e15) ?_
    refine a_iconst (v := 1) dX11_tellsLevel_19 (by decide) ?_
    refine a_istore_n dX11_tellsLevel_20 rfl (Nat.le_of_ble_eq_true rfl) (lv2 := [(2, .int 1), (0, .ref a0), (1, .int x1)]) rfl ?_
    exact a_lv (lv2 := [(0, .ref a0), (1, .int x1), (2, .int 1)]) (fa_cons rfl (fa_cons rfl (fa_cons rfl fa_nil))) (hJ _ _ _ h)
set_option maxHeartbeats 4000000 in
set_option maxRecDepth 100000 in
noncomputable def T_X11_tellsLevel_21.{u} {α : Sort u} (J : Nat → List Value → Mem → α) (R : Unit → Mem → α) (N : α) (n : Nat) (a0 : Nat) (x1 : Int32) (x2 : Int32) (M : Mem) : α := if (x1 / 26) < x2 then J 39 [.ref a0, .int x1, .int x2] M else J 21 [.ref a0, .int x1, .int (x2 * 26)] M
set_option maxHeartbeats 4000000 in
set_option maxRecDepth 100000 in
theorem n_X11_tellsLevel_21.{u, v} {α : Sort u} {β : Sort v} (h : α → β) (J : Nat → List Value → Mem → α) (R : Unit → Mem → α) (N : α) (n : Nat) (a0 : Nat) (x1 : Int32) (x2 : Int32) (M : Mem) : h (T_X11_tellsLevel_21 J R N n a0 x1 x2 M) = T_X11_tellsLevel_21 (fun c l M => h (J c l M)) (fun v M => h (R v M)) (h N) n a0 x1 x2 M := by
  simp only [T_X11_tellsLevel_21, nat_ite h, nat_gd h, nat_bnd h, nat_bnd2 h]
set_option maxHeartbeats 4000000 in
set_option maxRecDepth 100000 in
theorem w_X11_tellsLevel_21 {X : Nat × (Nat → Int32)} {al : Bool} {n : Nat} {Q : Option Value → Mem → Prop} {J : Nat → List Value → Mem → Prop} (hJ : ∀ c l M, J c l M → PW_X11_tellsLevel X al n Q c l M) {R : Unit → Mem → Prop} (hR : ∀ v M, R v M → Q none M) {a0 : Nat} {x1 : Int32} {x2 : Int32} {M : Mem} (h : T_X11_tellsLevel_21 J R False n a0 x1 x2 M) : AW X (RX11, cX11_tellsLevel, 4, none, false, al, n) 0 0 21 [(0, .ref a0), (1, .int x1), (2, .int x2)] [] M Q := by
  unfold T_X11_tellsLevel_21 at h
  refine a_iload_n dX11_tellsLevel_21 rfl rfl ?_
  refine a_bipush (v := 26) dX11_tellsLevel_22 (by decide) ?_
  refine a_idiv dX11_tellsLevel_24 (by decide) ?_
  refine a_iload_n dX11_tellsLevel_25 rfl rfl ?_
  refine a_icmp_lt 37 dX11_tellsLevel_26 (by decide) (fun c1 => ?_) (fun c1 => ?_)
  · replace h := ite_t c1 h
    refine a_iload_n dX11_tellsLevel_37 rfl rfl ?_
    refine a_istore_n dX11_tellsLevel_38 rfl (Nat.le_of_ble_eq_true rfl) (lv2 := [(3, .int x2), (0, .ref a0), (1, .int x1), (2, .int x2)]) rfl ?_
    exact a_lv (lv2 := [(0, .ref a0), (1, .int x1), (3, .int x2)]) (fa_cons rfl (fa_cons rfl (fa_cons rfl fa_nil))) (hJ _ _ _ h)
  · replace h := ite_f c1 h
    refine a_iload_n dX11_tellsLevel_29 rfl rfl ?_
    refine a_bipush (v := 26) dX11_tellsLevel_30 (by decide) ?_
    refine a_imul dX11_tellsLevel_32 ?_
    refine a_istore_n dX11_tellsLevel_33 rfl (Nat.le_of_ble_eq_true rfl) (lv2 := [(2, .int (x2 * 26)), (0, .ref a0), (1, .int x1)]) rfl ?_
    refine a_goto 21 dX11_tellsLevel_34 (by decide) ?_
    exact a_lv (lv2 := [(0, .ref a0), (1, .int x1), (2, .int (x2 * 26))]) (fa_cons rfl (fa_cons rfl (fa_cons rfl fa_nil))) (hJ _ _ _ h)
set_option maxHeartbeats 4000000 in
set_option maxRecDepth 100000 in
noncomputable def T_X11_tellsLevel_39.{u} {α : Sort u} (J : Nat → List Value → Mem → α) (R : Unit → Mem → α) (N : α) (n : Nat) (a0 : Nat) (x1 : Int32) (x3 : Int32) (M : Mem) : α := if x3 ≤ 0 then R () M else gd (¬ x3 = 0) N (gd (fO M a0 11) N (bnd2 (cal n (fun n => f_X11_tells n a0 (97 + ((x1 / x3) - (x1 / x3) / 26 * 26)) M)) N (fun _ M5 => J 39 [.ref a0, .int x1, .int (x3 / 26)] M5)))
set_option maxHeartbeats 4000000 in
set_option maxRecDepth 100000 in
theorem n_X11_tellsLevel_39.{u, v} {α : Sort u} {β : Sort v} (h : α → β) (J : Nat → List Value → Mem → α) (R : Unit → Mem → α) (N : α) (n : Nat) (a0 : Nat) (x1 : Int32) (x3 : Int32) (M : Mem) : h (T_X11_tellsLevel_39 J R N n a0 x1 x3 M) = T_X11_tellsLevel_39 (fun c l M => h (J c l M)) (fun v M => h (R v M)) (h N) n a0 x1 x3 M := by
  simp only [T_X11_tellsLevel_39, nat_ite h, nat_gd h, nat_bnd h, nat_bnd2 h]
set_option maxHeartbeats 4000000 in
set_option maxRecDepth 100000 in
theorem w_X11_tellsLevel_39 {X : Nat × (Nat → Int32)} {al : Bool} {n : Nat} {Q : Option Value → Mem → Prop} {J : Nat → List Value → Mem → Prop} (hJ : ∀ c l M, J c l M → PW_X11_tellsLevel X al n Q c l M) {R : Unit → Mem → Prop} (hR : ∀ v M, R v M → Q none M) {a0 : Nat} {x1 : Int32} {x3 : Int32} {M : Mem} (h : T_X11_tellsLevel_39 J R False n a0 x1 x3 M) : AW X (RX11, cX11_tellsLevel, 4, none, false, al, n) 0 0 39 [(0, .ref a0), (1, .int x1), (3, .int x3)] [] M Q := by
  unfold T_X11_tellsLevel_39 at h
  refine a_iload_n dX11_tellsLevel_39 rfl rfl ?_
  refine a_if_le 64 dX11_tellsLevel_40 (by decide) (fun c1 => ?_) (fun c1 => ?_)
  · replace h := ite_t c1 h
    exact a_vret dX11_tellsLevel_64 rfl (hR _ _ h)
  · replace h := ite_f c1 h
    refine a_aload_n dX11_tellsLevel_43 rfl rfl ?_
    refine a_bipush (v := 97) dX11_tellsLevel_44 (by decide) ?_
    refine a_iload_n dX11_tellsLevel_46 rfl rfl ?_
    refine a_iload_n dX11_tellsLevel_47 rfl rfl ?_
    obtain ⟨gz2, h⟩ := gd_t h
    refine a_idiv dX11_tellsLevel_48 gz2 ?_
    refine a_bipush (v := 26) dX11_tellsLevel_49 (by decide) ?_
    refine a_irem dX11_tellsLevel_51 (by decide) ?_
    refine a_iadd dX11_tellsLevel_52 ?_
    obtain ⟨⟨ga3, gs4⟩, h⟩ := gd_t h
    obtain ⟨_, M5, e6, h⟩ := bnd2_t h
    obtain ⟨n7, en8, e6⟩ := cal_t e6
    refine e_callV (As := [.int (97 + ((x1 / x3) - (x1 / x3) / 26 * 26))]) (st := []) (a := a0) (ci := 11) false dX11_tellsLevel_53 mw_X11_tells (Or.inl ⟨rfl, ml_X11_370⟩) im_X11_tells se_X11_tells (by decide) ga3 gs4 rfl (Nat.le_of_ble_eq_true rfl) en8 (s_X11_tells e6) ?_
    refine a_iload_n dX11_tellsLevel_56 rfl rfl ?_
    refine a_bipush (v := 26) dX11_tellsLevel_57 (by decide) ?_
    refine a_idiv dX11_tellsLevel_59 (by decide) ?_
    refine a_istore_n dX11_tellsLevel_60 rfl (Nat.le_of_ble_eq_true rfl) (lv2 := [(3, .int (x3 / 26)), (0, .ref a0), (1, .int x1)]) rfl ?_
    refine a_goto 39 dX11_tellsLevel_61 (by decide) ?_
    exact a_lv (lv2 := [(0, .ref a0), (1, .int x1), (3, .int (x3 / 26))]) (fa_cons rfl (fa_cons rfl (fa_cons rfl fa_nil))) (hJ _ _ _ h)
set_option maxHeartbeats 4000000 in
set_option maxRecDepth 100000 in
noncomputable def st_X11_tellsLevel (n : Nat) (s : Sg) : Option (Sg ⊕ (Unit × Mem)) := if s.1 = 0 then vR s.2.1 none (fun a0 t => vI t none (fun x1 t => vE t none (T_X11_tellsLevel_0 (fun c l M => some (.inl (c, l, M))) (fun v M => some (.inr (v, M))) none n a0 x1 s.2.2))) else if s.1 = 21 then vR s.2.1 none (fun a0 t => vI t none (fun x1 t => vI t none (fun x2 t => vE t none (T_X11_tellsLevel_21 (fun c l M => some (.inl (c, l, M))) (fun v M => some (.inr (v, M))) none n a0 x1 x2 s.2.2)))) else if s.1 = 39 then vR s.2.1 none (fun a0 t => vI t none (fun x1 t => vI t none (fun x3 t => vE t none (T_X11_tellsLevel_39 (fun c l M => some (.inl (c, l, M))) (fun v M => some (.inr (v, M))) none n a0 x1 x3 s.2.2)))) else none
noncomputable abbrev g_X11_tellsLevel_0 (n : Nat) (a0 : Nat) (x1 : Int32) (M : Mem) : Option (Unit × Mem) := lp (st_X11_tellsLevel n) (0, [.ref a0, .int x1], M)
set_option maxHeartbeats 4000000 in
set_option maxRecDepth 100000 in
theorem ge_X11_tellsLevel_0 (n : Nat) (a0 : Nat) (x1 : Int32) (M : Mem) : g_X11_tellsLevel_0 n a0 x1 M = T_X11_tellsLevel_0 (fun c l M => lp (st_X11_tellsLevel n) (c, l, M)) (fun v M => some (v, M)) none n a0 x1 M := (lp_eq _ _).trans (n_X11_tellsLevel_0 (lpK (st_X11_tellsLevel n)) (fun c l M => some (.inl (c, l, M))) (fun v M => some (.inr (v, M))) none n a0 x1 M)
noncomputable abbrev g_X11_tellsLevel_21 (n : Nat) (a0 : Nat) (x1 : Int32) (x2 : Int32) (M : Mem) : Option (Unit × Mem) := lp (st_X11_tellsLevel n) (21, [.ref a0, .int x1, .int x2], M)
set_option maxHeartbeats 4000000 in
set_option maxRecDepth 100000 in
theorem ge_X11_tellsLevel_21 (n : Nat) (a0 : Nat) (x1 : Int32) (x2 : Int32) (M : Mem) : g_X11_tellsLevel_21 n a0 x1 x2 M = T_X11_tellsLevel_21 (fun c l M => lp (st_X11_tellsLevel n) (c, l, M)) (fun v M => some (v, M)) none n a0 x1 x2 M := (lp_eq _ _).trans (n_X11_tellsLevel_21 (lpK (st_X11_tellsLevel n)) (fun c l M => some (.inl (c, l, M))) (fun v M => some (.inr (v, M))) none n a0 x1 x2 M)
noncomputable abbrev g_X11_tellsLevel_39 (n : Nat) (a0 : Nat) (x1 : Int32) (x3 : Int32) (M : Mem) : Option (Unit × Mem) := lp (st_X11_tellsLevel n) (39, [.ref a0, .int x1, .int x3], M)
set_option maxHeartbeats 4000000 in
set_option maxRecDepth 100000 in
theorem ge_X11_tellsLevel_39 (n : Nat) (a0 : Nat) (x1 : Int32) (x3 : Int32) (M : Mem) : g_X11_tellsLevel_39 n a0 x1 x3 M = T_X11_tellsLevel_39 (fun c l M => lp (st_X11_tellsLevel n) (c, l, M)) (fun v M => some (v, M)) none n a0 x1 x3 M := (lp_eq _ _).trans (n_X11_tellsLevel_39 (lpK (st_X11_tellsLevel n)) (fun c l M => some (.inl (c, l, M))) (fun v M => some (.inr (v, M))) none n a0 x1 x3 M)
noncomputable def b_X11_tellsLevel (n : Nat) (a0 : Nat) (x1 : Int32) (M : Mem) : Option (Unit × Mem) := g_X11_tellsLevel_0 n a0 x1 M
set_option maxHeartbeats 4000000 in
set_option maxRecDepth 100000 in
theorem sb_X11_tellsLevel {X : Nat × (Nat → Int32)} {al : Bool} {n : Nat} {a0 : Nat} {x1 : Int32} {M : Mem} {v : Unit} {M1 : Mem} (h : b_X11_tellsLevel n a0 x1 M = some (v, M1)) : AE yX11_tellsLevel cX11_tellsLevel 4 none al n X [.ref a0, .int x1] M none M1 := by
  refine AM.of false (by decide +kernel) (by intro h; cases h) (Nat.le_of_ble_eq_true rfl) ?_
  refine lp_snd (P := fun s r => PW_X11_tellsLevel X al n (fun v M2 => v = none ∧ M2 = r.2) s.1 s.2.1 s.2.2) ?_ h
  clear h
  rintro ⟨c, l, M⟩ r h
  unfold st_X11_tellsLevel at h
  rcases ite_p h with ⟨e, h⟩ | ⟨e, h⟩
  · replace e : c = 0 := e
    subst e
    obtain ⟨a0, tt0, e, h⟩ := vR_p id h
    replace e : l = _ := e
    subst e
    obtain ⟨x1, tt1, e, h⟩ := vI_p id h
    replace e : tt0 = _ := e
    subst e
    obtain ⟨e, h⟩ := vE_p id h
    replace e : tt1 = [] := e
    subst e
    exact w_X11_tellsLevel_0 (J := fun c l M => PW_X11_tellsLevel X al n (fun v M2 => v = none ∧ M2 = r.2) c l M) (R := fun v M => (v, M) = r) (fun _ _ _ h => h) (fun v M h => by cases h; exact ⟨rfl, rfl⟩) ((n_X11_tellsLevel_0 (lpP (fun (s : Sg) (r : Unit × Mem) => PW_X11_tellsLevel X al n (fun v M2 => v = none ∧ M2 = r.2) s.1 s.2.1 s.2.2) r) (fun c l M => some (.inl (c, l, M))) (fun v M => some (.inr (v, M))) none n a0 x1 M).mp h)
  rcases ite_p h with ⟨e, h⟩ | ⟨e, h⟩
  · replace e : c = 21 := e
    subst e
    obtain ⟨a0, tt0, e, h⟩ := vR_p id h
    replace e : l = _ := e
    subst e
    obtain ⟨x1, tt1, e, h⟩ := vI_p id h
    replace e : tt0 = _ := e
    subst e
    obtain ⟨x2, tt2, e, h⟩ := vI_p id h
    replace e : tt1 = _ := e
    subst e
    obtain ⟨e, h⟩ := vE_p id h
    replace e : tt2 = [] := e
    subst e
    exact w_X11_tellsLevel_21 (J := fun c l M => PW_X11_tellsLevel X al n (fun v M2 => v = none ∧ M2 = r.2) c l M) (R := fun v M => (v, M) = r) (fun _ _ _ h => h) (fun v M h => by cases h; exact ⟨rfl, rfl⟩) ((n_X11_tellsLevel_21 (lpP (fun (s : Sg) (r : Unit × Mem) => PW_X11_tellsLevel X al n (fun v M2 => v = none ∧ M2 = r.2) s.1 s.2.1 s.2.2) r) (fun c l M => some (.inl (c, l, M))) (fun v M => some (.inr (v, M))) none n a0 x1 x2 M).mp h)
  rcases ite_p h with ⟨e, h⟩ | ⟨e, h⟩
  · replace e : c = 39 := e
    subst e
    obtain ⟨a0, tt0, e, h⟩ := vR_p id h
    replace e : l = _ := e
    subst e
    obtain ⟨x1, tt1, e, h⟩ := vI_p id h
    replace e : tt0 = _ := e
    subst e
    obtain ⟨x3, tt2, e, h⟩ := vI_p id h
    replace e : tt1 = _ := e
    subst e
    obtain ⟨e, h⟩ := vE_p id h
    replace e : tt2 = [] := e
    subst e
    exact w_X11_tellsLevel_39 (J := fun c l M => PW_X11_tellsLevel X al n (fun v M2 => v = none ∧ M2 = r.2) c l M) (R := fun v M => (v, M) = r) (fun _ _ _ h => h) (fun v M h => by cases h; exact ⟨rfl, rfl⟩) ((n_X11_tellsLevel_39 (lpP (fun (s : Sg) (r : Unit × Mem) => PW_X11_tellsLevel X al n (fun v M2 => v = none ∧ M2 = r.2) s.1 s.2.1 s.2.2) r) (fun c l M => some (.inl (c, l, M))) (fun v M => some (.inr (v, M))) none n a0 x1 x3 M).mp h)
  · exact h.elim

noncomputable abbrev f_X11_tellsLevel := b_X11_tellsLevel
theorem s_X11_tellsLevel {X : Nat × (Nat → Int32)} {al : Bool} {n : Nat} {a0 : Nat} {x1 : Int32} {M : Mem} {v : Unit} {M1 : Mem} (h : f_X11_tellsLevel n a0 x1 M = some (v, M1)) : AE yX11_tellsLevel cX11_tellsLevel 4 none al n X [.ref a0, .int x1] M none M1 := sb_X11_tellsLevel h
def ix_X11_tellsTerm (c : Nat) : List Nat := if c = 0 then [0, 1, 2] else if c = 89 then [0, 1, 2, 3] else if c = 112 then [0, 1, 2, 3] else if c = 130 then [0, 1, 2, 3] else if c = 163 then [0, 1, 2, 3, 4] else []
def PW_X11_tellsTerm (X : Nat × (Nat → Int32)) (al : Bool) (n : Nat) (Q : Option Value → Mem → Prop) (c : Nat) (l : List Value) (M : Mem) : Prop := AW X (RX11, cX11_tellsTerm, 5, none, false, al, n) 0 0 c (List.zip (ix_X11_tellsTerm c) l) (l.drop (ix_X11_tellsTerm c).length) M Q
set_option maxHeartbeats 4000000 in
set_option maxRecDepth 100000 in
noncomputable def T_X11_tellsTerm_0.{u} {α : Sort u} (J : Nat → List Value → Mem → α) (R : Unit → Mem → α) (N : α) (cl : Nat → List Value → Mem → Option (Unit × Mem)) (n : Nat) (a0 : Nat) (x1 : Int32) (x2 : Int32) (M : Mem) : α := gd (fO M a0 11) N (bnd (M.2.2.2.2 a0 20) N (fun r3 => gd (fA M r3 1 (M.2.2.1 a0 43)) N (if ((wI M a0 43 ((M.2.2.1 a0 43) + 1)).2.2.1 r3 ((M.2.2.1 a0 43).toNatClampNeg)) = 0 then bnd (M.2.2.2.2 a0 21) N (fun r27 => gd (fA M r27 1 (M.2.2.1 a0 43)) N (if 0 ≤ ((wI M a0 43 ((M.2.2.1 a0 43) + 1)).2.2.1 r27 ((M.2.2.1 a0 43).toNatClampNeg)) then bnd2 (cal n (fun n => f_X11_tellsLevel n a0 ((wI M a0 43 ((M.2.2.1 a0 43) + 1)).2.2.1 r27 ((M.2.2.1 a0 43).toNatClampNeg)) (wI M a0 43 ((M.2.2.1 a0 43) + 1)))) N (fun _ M34 => R () M34) else bnd2 (cal n (fun n => f_X11_tellsHypothesis n a0 ((-1) - ((wI M a0 43 ((M.2.2.1 a0 43) + 1)).2.2.1 r27 ((M.2.2.1 a0 43).toNatClampNeg))) (wI M a0 43 ((M.2.2.1 a0 43) + 1)))) N (fun _ M38 => R () M38))) else bnd2 (cal n (fun n => f_X11_tellsWord n a0 ((((wI M a0 43 ((M.2.2.1 a0 43) + 1)).2.2.1 r3 ((M.2.2.1 a0 43).toNatClampNeg)) - 1) + 13) (wI M a0 43 ((M.2.2.1 a0 43) + 1)))) N (fun _ M10 => gd (fO M10 a0 11) N (bnd (M10.2.2.2.2 a0 20) N (fun r16 => gd (fA M10 r16 1 (M.2.2.1 a0 43)) N (if (M10.2.2.1 r16 ((M.2.2.1 a0 43).toNatClampNeg)) = 1 then bnd2 (cal n (fun n => f_X11_tellsLevel n a0 x1 M10)) N (fun _ M23 => J 89 [.ref a0, .int x1, .int x2, .int (M.2.2.1 a0 43)] M23) else J 89 [.ref a0, .int x1, .int x2, .int (M.2.2.1 a0 43)] M10)))))))
set_option maxHeartbeats 4000000 in
set_option maxRecDepth 100000 in
theorem n_X11_tellsTerm_0.{u, v} {α : Sort u} {β : Sort v} (h : α → β) (J : Nat → List Value → Mem → α) (R : Unit → Mem → α) (N : α) (cl : Nat → List Value → Mem → Option (Unit × Mem)) (n : Nat) (a0 : Nat) (x1 : Int32) (x2 : Int32) (M : Mem) : h (T_X11_tellsTerm_0 J R N cl n a0 x1 x2 M) = T_X11_tellsTerm_0 (fun c l M => h (J c l M)) (fun v M => h (R v M)) (h N) cl n a0 x1 x2 M := by
  simp only [T_X11_tellsTerm_0, nat_ite h, nat_gd h, nat_bnd h, nat_bnd2 h]
set_option maxHeartbeats 4000000 in
set_option maxRecDepth 100000 in
theorem w_X11_tellsTerm_0 {X : Nat × (Nat → Int32)} {al : Bool} {n : Nat} {Q : Option Value → Mem → Prop} {J : Nat → List Value → Mem → Prop} (hJ : ∀ c l M, J c l M → PW_X11_tellsTerm X al n Q c l M) {R : Unit → Mem → Prop} (hR : ∀ v M, R v M → Q none M) {cl : Nat → List Value → Mem → Option (Unit × Mem)} (hc_X11_tellsTerm : ∀ {a0 : Nat} {x1 : Int32} {x2 : Int32} {M : Mem} {v : Unit} {M1 : Mem}, cl 0 [.ref a0, .int x1, .int x2] M = some (v, M1) → ∃ k, n = k + 1 ∧ AE yX11_tellsTerm cX11_tellsTerm 5 none al k X [.ref a0, .int x1, .int x2] M none M1) {a0 : Nat} {x1 : Int32} {x2 : Int32} {M : Mem} (h : T_X11_tellsTerm_0 J R False cl n a0 x1 x2 M) : AW X (RX11, cX11_tellsTerm, 5, none, false, al, n) 0 0 0 [(0, .ref a0), (1, .int x1), (2, .int x2)] [] M Q := by
  unfold T_X11_tellsTerm_0 at h
  refine a_aload_n dX11_tellsTerm_0 rfl rfl ?_
  obtain ⟨⟨ga1, gs2⟩, h⟩ := gd_t h
  refine a_get (v := .int (M.2.2.1 a0 43)) dX11_tellsTerm_1 fl_11_283 ga1 gs2 rfl ?_
  refine a_istore_n dX11_tellsTerm_4 rfl (Nat.le_of_ble_eq_true rfl) (lv2 := [(3, .int (M.2.2.1 a0 43)), (0, .ref a0), (1, .int x1), (2, .int x2)]) rfl ?_
  refine a_aload_n dX11_tellsTerm_5 rfl rfl ?_
  refine a_dup dX11_tellsTerm_6 rfl ?_
  refine a_get (v := .int (M.2.2.1 a0 43)) dX11_tellsTerm_7 fl_11_283 ga1 gs2 rfl ?_
  refine a_iconst (v := 1) dX11_tellsTerm_10 (by decide) ?_
  refine a_iadd dX11_tellsTerm_11 ?_
  refine a_putI dX11_tellsTerm_12 (Or.inl ⟨fl_11_283, Or.inl rfl⟩) rfl ga1 gs2 rfl rfl ?_
  refine a_aload_n dX11_tellsTerm_15 rfl rfl ?_
  obtain ⟨r3, e4, h⟩ := bnd_t h
  refine a_get (v := .ref r3) dX11_tellsTerm_16 fl_11_59 ga1 gs2 (gvR e4 rfl) ?_
  refine a_iload_n dX11_tellsTerm_19 rfl rfl ?_
  obtain ⟨⟨ga5, gn6, gs7, gi8⟩, h⟩ := gd_t h
  refine a_iaload dX11_tellsTerm_20 ga5 gs7 gi8 ?_
  refine a_if_ne 59 dX11_tellsTerm_21 (by decide) (fun c9 => ?_) (fun c9 => ?_)
  · replace h := ite_f c9 h
    refine a_aload_n dX11_tellsTerm_59 rfl rfl ?_
    refine a_aload_n dX11_tellsTerm_60 rfl rfl ?_
    refine a_get (v := .ref r3) dX11_tellsTerm_61 fl_11_59 ga1 gs2 (gvR e4 rfl) ?_
    refine a_iload_n dX11_tellsTerm_64 rfl rfl ?_
    refine a_iaload dX11_tellsTerm_65 ga5 gs7 gi8 ?_
    refine a_iconst (v := 1) dX11_tellsTerm_66 (by decide) ?_
    refine a_isub dX11_tellsTerm_67 ?_
    refine a_bipush (v := 13) dX11_tellsTerm_68 (by decide) ?_
    refine a_iadd dX11_tellsTerm_70 ?_
    obtain ⟨_, M10, e11, h⟩ := bnd2_t h
    obtain ⟨n12, en13, e11⟩ := cal_t e11
    refine e_callV (As := [.int ((((wI M a0 43 ((M.2.2.1 a0 43) + 1)).2.2.1 r3 ((M.2.2.1 a0 43).toNatClampNeg)) - 1) + 13)]) (st := []) (a := a0) (ci := 11) false dX11_tellsTerm_71 mw_X11_tellsWord (Or.inl ⟨rfl, ml_X11_373⟩) im_X11_tellsWord se_X11_tellsWord (by decide) ga1 gs2 rfl (Nat.le_of_ble_eq_true rfl) en13 (s_X11_tellsWord e11) ?_
    refine a_aload_n dX11_tellsTerm_74 rfl rfl ?_
    obtain ⟨⟨ga14, gs15⟩, h⟩ := gd_t h
    obtain ⟨r16, e17, h⟩ := bnd_t h
    refine a_get (v := .ref r16) dX11_tellsTerm_75 fl_11_59 ga14 gs15 (gvR e17 rfl) ?_
    refine a_iload_n dX11_tellsTerm_78 rfl rfl ?_
    obtain ⟨⟨ga18, gn19, gs20, gi21⟩, h⟩ := gd_t h
    refine a_iaload dX11_tellsTerm_79 ga18 gs20 gi21 ?_
    refine a_iconst (v := 1) dX11_tellsTerm_80 (by decide) ?_
    refine a_icmp_ne 89 dX11_tellsTerm_81 (by decide) (fun c22 => ?_) (fun c22 => ?_)
    · replace h := ite_f c22 h
      exact a_lv (lv2 := [(0, .ref a0), (1, .int x1), (2, .int x2), (3, .int (M.2.2.1 a0 43))]) (fa_cons rfl (fa_cons rfl (fa_cons rfl (fa_cons rfl fa_nil)))) (hJ _ _ _ h)
    · replace h := ite_t c22 h
      refine a_aload_n dX11_tellsTerm_84 rfl rfl ?_
      refine a_iload_n dX11_tellsTerm_85 rfl rfl ?_
      obtain ⟨_, M23, e24, h⟩ := bnd2_t h
      obtain ⟨n25, en26, e24⟩ := cal_t e24
      refine e_callV (As := [.int x1]) (st := []) (a := a0) (ci := 11) false dX11_tellsTerm_86 mw_X11_tellsLevel (Or.inl ⟨rfl, ml_X11_382⟩) im_X11_tellsLevel se_X11_tellsLevel (by decide) ga14 gs15 rfl (Nat.le_of_ble_eq_true rfl) en26 (s_X11_tellsLevel e24) ?_
      exact a_lv (lv2 := [(0, .ref a0), (1, .int x1), (2, .int x2), (3, .int (M.2.2.1 a0 43))]) (fa_cons rfl (fa_cons rfl (fa_cons rfl (fa_cons rfl fa_nil)))) (hJ _ _ _ h)
  · replace h := ite_t c9 h
    refine a_aload_n dX11_tellsTerm_24 rfl rfl ?_
    obtain ⟨r27, e28, h⟩ := bnd_t h
    refine a_get (v := .ref r27) dX11_tellsTerm_25 fl_11_62 ga1 gs2 (gvR e28 rfl) ?_
    refine a_iload_n dX11_tellsTerm_28 rfl rfl ?_
    obtain ⟨⟨ga29, gn30, gs31, gi32⟩, h⟩ := gd_t h
    refine a_iaload dX11_tellsTerm_29 ga29 gs31 gi32 ?_
    refine a_if_ge 48 dX11_tellsTerm_30 (by decide) (fun c33 => ?_) (fun c33 => ?_)
    · replace h := ite_t c33 h
      refine a_aload_n dX11_tellsTerm_48 rfl rfl ?_
      refine a_aload_n dX11_tellsTerm_49 rfl rfl ?_
      refine a_get (v := .ref r27) dX11_tellsTerm_50 fl_11_62 ga1 gs2 (gvR e28 rfl) ?_
      refine a_iload_n dX11_tellsTerm_53 rfl rfl ?_
      refine a_iaload dX11_tellsTerm_54 ga29 gs31 gi32 ?_
      obtain ⟨_, M34, e35, h⟩ := bnd2_t h
      obtain ⟨n36, en37, e35⟩ := cal_t e35
      refine e_callV (As := [.int ((wI M a0 43 ((M.2.2.1 a0 43) + 1)).2.2.1 r27 ((M.2.2.1 a0 43).toNatClampNeg))]) (st := []) (a := a0) (ci := 11) false dX11_tellsTerm_55 mw_X11_tellsLevel (Or.inl ⟨rfl, ml_X11_382⟩) im_X11_tellsLevel se_X11_tellsLevel (by decide) ga1 gs2 rfl (Nat.le_of_ble_eq_true rfl) en37 (s_X11_tellsLevel e35) ?_
      exact a_vret dX11_tellsTerm_58 rfl (hR _ _ h)
    · replace h := ite_f c33 h
      refine a_aload_n dX11_tellsTerm_33 rfl rfl ?_
      refine a_iconst (v := -1) dX11_tellsTerm_34 (by decide) ?_
      refine a_aload_n dX11_tellsTerm_35 rfl rfl ?_
      refine a_get (v := .ref r27) dX11_tellsTerm_36 fl_11_62 ga1 gs2 (gvR e28 rfl) ?_
      refine a_iload_n dX11_tellsTerm_39 rfl rfl ?_
      refine a_iaload dX11_tellsTerm_40 ga29 gs31 gi32 ?_
      refine a_isub dX11_tellsTerm_41 ?_
      obtain ⟨_, M38, e39, h⟩ := bnd2_t h
      obtain ⟨n40, en41, e39⟩ := cal_t e39
      refine e_callV (As := [.int ((-1) - ((wI M a0 43 ((M.2.2.1 a0 43) + 1)).2.2.1 r27 ((M.2.2.1 a0 43).toNatClampNeg)))]) (st := []) (a := a0) (ci := 11) false dX11_tellsTerm_42 mw_X11_tellsHypothesis (Or.inl ⟨rfl, ml_X11_379⟩) im_X11_tellsHypothesis se_X11_tellsHypothesis (by decide) ga1 gs2 rfl (Nat.le_of_ble_eq_true rfl) en41 (s_X11_tellsHypothesis e39) ?_
      refine a_goto 58 dX11_tellsTerm_45 (by decide) ?_
      exact a_vret dX11_tellsTerm_58 rfl (hR _ _ h)
set_option maxHeartbeats 4000000 in
set_option maxRecDepth 100000 in
noncomputable def T_X11_tellsTerm_89.{u} {α : Sort u} (J : Nat → List Value → Mem → α) (R : Unit → Mem → α) (N : α) (cl : Nat → List Value → Mem → Option (Unit × Mem)) (n : Nat) (a0 : Nat) (x1 : Int32) (x2 : Int32) (x3 : Int32) (M : Mem) : α := gd (fO M a0 11) N (bnd (M.2.2.2.2 a0 21) N (fun r3 => gd (fA M r3 1 x3) N (if (M.2.2.1 r3 (x3.toNatClampNeg)) < 0 then J 112 [.ref a0, .int x1, .int x2, .int x3] M else if x2 = 0 then bnd2 (cal n (fun n => f_X11_tellsFormula n a0 (M.2.2.1 r3 (x3.toNatClampNeg)) M)) N (fun _ M11 => J 112 [.ref a0, .int x1, .int x2, .int x3] M11) else J 112 [.ref a0, .int x1, .int x2, .int x3] M)))
set_option maxHeartbeats 4000000 in
set_option maxRecDepth 100000 in
theorem n_X11_tellsTerm_89.{u, v} {α : Sort u} {β : Sort v} (h : α → β) (J : Nat → List Value → Mem → α) (R : Unit → Mem → α) (N : α) (cl : Nat → List Value → Mem → Option (Unit × Mem)) (n : Nat) (a0 : Nat) (x1 : Int32) (x2 : Int32) (x3 : Int32) (M : Mem) : h (T_X11_tellsTerm_89 J R N cl n a0 x1 x2 x3 M) = T_X11_tellsTerm_89 (fun c l M => h (J c l M)) (fun v M => h (R v M)) (h N) cl n a0 x1 x2 x3 M := by
  simp only [T_X11_tellsTerm_89, nat_ite h, nat_gd h, nat_bnd h, nat_bnd2 h]
set_option maxHeartbeats 4000000 in
set_option maxRecDepth 100000 in
theorem w_X11_tellsTerm_89 {X : Nat × (Nat → Int32)} {al : Bool} {n : Nat} {Q : Option Value → Mem → Prop} {J : Nat → List Value → Mem → Prop} (hJ : ∀ c l M, J c l M → PW_X11_tellsTerm X al n Q c l M) {R : Unit → Mem → Prop} (hR : ∀ v M, R v M → Q none M) {cl : Nat → List Value → Mem → Option (Unit × Mem)} (hc_X11_tellsTerm : ∀ {a0 : Nat} {x1 : Int32} {x2 : Int32} {M : Mem} {v : Unit} {M1 : Mem}, cl 0 [.ref a0, .int x1, .int x2] M = some (v, M1) → ∃ k, n = k + 1 ∧ AE yX11_tellsTerm cX11_tellsTerm 5 none al k X [.ref a0, .int x1, .int x2] M none M1) {a0 : Nat} {x1 : Int32} {x2 : Int32} {x3 : Int32} {M : Mem} (h : T_X11_tellsTerm_89 J R False cl n a0 x1 x2 x3 M) : AW X (RX11, cX11_tellsTerm, 5, none, false, al, n) 0 0 89 [(0, .ref a0), (1, .int x1), (2, .int x2), (3, .int x3)] [] M Q := by
  unfold T_X11_tellsTerm_89 at h
  refine a_aload_n dX11_tellsTerm_89 rfl rfl ?_
  obtain ⟨⟨ga1, gs2⟩, h⟩ := gd_t h
  obtain ⟨r3, e4, h⟩ := bnd_t h
  refine a_get (v := .ref r3) dX11_tellsTerm_90 fl_11_62 ga1 gs2 (gvR e4 rfl) ?_
  refine a_iload_n dX11_tellsTerm_93 rfl rfl ?_
  obtain ⟨⟨ga5, gn6, gs7, gi8⟩, h⟩ := gd_t h
  refine a_iaload dX11_tellsTerm_94 ga5 gs7 gi8 ?_
  refine a_if_lt 112 dX11_tellsTerm_95 (by decide) (fun c9 => ?_) (fun c9 => ?_)
  · replace h := ite_t c9 h
    exact a_lv (lv2 := [(0, .ref a0), (1, .int x1), (2, .int x2), (3, .int x3)]) (fa_cons rfl (fa_cons rfl (fa_cons rfl (fa_cons rfl fa_nil)))) (hJ _ _ _ h)
  · replace h := ite_f c9 h
    refine a_iload_n dX11_tellsTerm_98 rfl rfl ?_
    refine a_if_ne 112 dX11_tellsTerm_99 (by decide) (fun c10 => ?_) (fun c10 => ?_)
    · replace h := ite_f c10 h
      exact a_lv (lv2 := [(0, .ref a0), (1, .int x1), (2, .int x2), (3, .int x3)]) (fa_cons rfl (fa_cons rfl (fa_cons rfl (fa_cons rfl fa_nil)))) (hJ _ _ _ h)
    · replace h := ite_t c10 h
      refine a_aload_n dX11_tellsTerm_102 rfl rfl ?_
      refine a_aload_n dX11_tellsTerm_103 rfl rfl ?_
      refine a_get (v := .ref r3) dX11_tellsTerm_104 fl_11_62 ga1 gs2 (gvR e4 rfl) ?_
      refine a_iload_n dX11_tellsTerm_107 rfl rfl ?_
      refine a_iaload dX11_tellsTerm_108 ga5 gs7 gi8 ?_
      obtain ⟨_, M11, e12, h⟩ := bnd2_t h
      obtain ⟨n13, en14, e12⟩ := cal_t e12
      refine e_callV (As := [.int (M.2.2.1 r3 (x3.toNatClampNeg))]) (st := []) (a := a0) (ci := 11) false dX11_tellsTerm_109 mw_X11_tellsFormula (Or.inl ⟨rfl, ml_X11_376⟩) im_X11_tellsFormula se_X11_tellsFormula (by decide) ga1 gs2 rfl (Nat.le_of_ble_eq_true rfl) en14 (s_X11_tellsFormula e12) ?_
      exact a_lv (lv2 := [(0, .ref a0), (1, .int x1), (2, .int x2), (3, .int x3)]) (fa_cons rfl (fa_cons rfl (fa_cons rfl (fa_cons rfl fa_nil)))) (hJ _ _ _ h)
set_option maxHeartbeats 4000000 in
set_option maxRecDepth 100000 in
noncomputable def T_X11_tellsTerm_112.{u} {α : Sort u} (J : Nat → List Value → Mem → α) (R : Unit → Mem → α) (N : α) (cl : Nat → List Value → Mem → Option (Unit × Mem)) (n : Nat) (a0 : Nat) (x1 : Int32) (x2 : Int32) (x3 : Int32) (M : Mem) : α := gd (fO M a0 11) N (bnd (M.2.2.2.2 a0 20) N (fun r3 => gd (fA M r3 1 x3) N (if (M.2.2.1 r3 (x3.toNatClampNeg)) = 1 then J 130 [.ref a0, .int x1, .int x2, .int x3, .int (x1 + 1), .ref a0] M else J 130 [.ref a0, .int x1, .int x2, .int x3, .int x1, .ref a0] M)))
set_option maxHeartbeats 4000000 in
set_option maxRecDepth 100000 in
theorem n_X11_tellsTerm_112.{u, v} {α : Sort u} {β : Sort v} (h : α → β) (J : Nat → List Value → Mem → α) (R : Unit → Mem → α) (N : α) (cl : Nat → List Value → Mem → Option (Unit × Mem)) (n : Nat) (a0 : Nat) (x1 : Int32) (x2 : Int32) (x3 : Int32) (M : Mem) : h (T_X11_tellsTerm_112 J R N cl n a0 x1 x2 x3 M) = T_X11_tellsTerm_112 (fun c l M => h (J c l M)) (fun v M => h (R v M)) (h N) cl n a0 x1 x2 x3 M := by
  simp only [T_X11_tellsTerm_112, nat_ite h, nat_gd h, nat_bnd h, nat_bnd2 h]
set_option maxHeartbeats 4000000 in
set_option maxRecDepth 100000 in
theorem w_X11_tellsTerm_112 {X : Nat × (Nat → Int32)} {al : Bool} {n : Nat} {Q : Option Value → Mem → Prop} {J : Nat → List Value → Mem → Prop} (hJ : ∀ c l M, J c l M → PW_X11_tellsTerm X al n Q c l M) {R : Unit → Mem → Prop} (hR : ∀ v M, R v M → Q none M) {cl : Nat → List Value → Mem → Option (Unit × Mem)} (hc_X11_tellsTerm : ∀ {a0 : Nat} {x1 : Int32} {x2 : Int32} {M : Mem} {v : Unit} {M1 : Mem}, cl 0 [.ref a0, .int x1, .int x2] M = some (v, M1) → ∃ k, n = k + 1 ∧ AE yX11_tellsTerm cX11_tellsTerm 5 none al k X [.ref a0, .int x1, .int x2] M none M1) {a0 : Nat} {x1 : Int32} {x2 : Int32} {x3 : Int32} {M : Mem} (h : T_X11_tellsTerm_112 J R False cl n a0 x1 x2 x3 M) : AW X (RX11, cX11_tellsTerm, 5, none, false, al, n) 0 0 112 [(0, .ref a0), (1, .int x1), (2, .int x2), (3, .int x3)] [] M Q := by
  unfold T_X11_tellsTerm_112 at h
  refine a_aload_n dX11_tellsTerm_112 rfl rfl ?_
  refine a_aload_n dX11_tellsTerm_113 rfl rfl ?_
  obtain ⟨⟨ga1, gs2⟩, h⟩ := gd_t h
  obtain ⟨r3, e4, h⟩ := bnd_t h
  refine a_get (v := .ref r3) dX11_tellsTerm_114 fl_11_59 ga1 gs2 (gvR e4 rfl) ?_
  refine a_iload_n dX11_tellsTerm_117 rfl rfl ?_
  obtain ⟨⟨ga5, gn6, gs7, gi8⟩, h⟩ := gd_t h
  refine a_iaload dX11_tellsTerm_118 ga5 gs7 gi8 ?_
  refine a_iconst (v := 1) dX11_tellsTerm_119 (by decide) ?_
  refine a_icmp_ne 129 dX11_tellsTerm_120 (by decide) (fun c9 => ?_) (fun c9 => ?_)
  · replace h := ite_f c9 h
    refine a_iload_n dX11_tellsTerm_129 rfl rfl ?_
    exact a_lv (lv2 := [(0, .ref a0), (1, .int x1), (2, .int x2), (3, .int x3)]) (fa_cons rfl (fa_cons rfl (fa_cons rfl (fa_cons rfl fa_nil)))) (hJ _ _ _ h)
  · replace h := ite_t c9 h
    refine a_iload_n dX11_tellsTerm_123 rfl rfl ?_
    refine a_iconst (v := 1) dX11_tellsTerm_124 (by decide) ?_
    refine a_iadd dX11_tellsTerm_125 ?_
    refine a_goto 130 dX11_tellsTerm_126 (by decide) ?_
    exact a_lv (lv2 := [(0, .ref a0), (1, .int x1), (2, .int x2), (3, .int x3)]) (fa_cons rfl (fa_cons rfl (fa_cons rfl (fa_cons rfl fa_nil)))) (hJ _ _ _ h)
set_option maxHeartbeats 4000000 in
set_option maxRecDepth 100000 in
noncomputable def T_X11_tellsTerm_130.{u} {α : Sort u} (J : Nat → List Value → Mem → α) (R : Unit → Mem → α) (N : α) (cl : Nat → List Value → Mem → Option (Unit × Mem)) (n : Nat) (a0 : Nat) (x1 : Int32) (x2 : Int32) (x3 : Int32) (xs0 : Int32) (ra1 : Nat) (M : Mem) : α := gd (fO M ra1 11) N (bnd2 (cl 0 [.ref ra1, .int xs0, .int x2] M) N (fun _ M3 => gd (fO M3 a0 11) N (bnd (M3.2.2.2.2 a0 20) N (fun r9 => gd (fA M3 r9 1 x3) N (if (M3.2.2.1 r9 (x3.toNatClampNeg)) = 2 then bnd2 (cl 0 [.ref a0, .int x1, .int x2] M3) N (fun _ M16 => J 163 [.ref a0, .int x1, .int x2, .int x3, .int 0] M16) else if (M3.2.2.1 r9 (x3.toNatClampNeg)) = 3 then bnd2 (cl 0 [.ref a0, .int x1, .int x2] M3) N (fun _ M21 => J 163 [.ref a0, .int x1, .int x2, .int x3, .int 0] M21) else J 163 [.ref a0, .int x1, .int x2, .int x3, .int 0] M3)))))
set_option maxHeartbeats 4000000 in
set_option maxRecDepth 100000 in
theorem n_X11_tellsTerm_130.{u, v} {α : Sort u} {β : Sort v} (h : α → β) (J : Nat → List Value → Mem → α) (R : Unit → Mem → α) (N : α) (cl : Nat → List Value → Mem → Option (Unit × Mem)) (n : Nat) (a0 : Nat) (x1 : Int32) (x2 : Int32) (x3 : Int32) (xs0 : Int32) (ra1 : Nat) (M : Mem) : h (T_X11_tellsTerm_130 J R N cl n a0 x1 x2 x3 xs0 ra1 M) = T_X11_tellsTerm_130 (fun c l M => h (J c l M)) (fun v M => h (R v M)) (h N) cl n a0 x1 x2 x3 xs0 ra1 M := by
  simp only [T_X11_tellsTerm_130, nat_ite h, nat_gd h, nat_bnd h, nat_bnd2 h]
set_option maxHeartbeats 4000000 in
set_option maxRecDepth 100000 in
theorem w_X11_tellsTerm_130 {X : Nat × (Nat → Int32)} {al : Bool} {n : Nat} {Q : Option Value → Mem → Prop} {J : Nat → List Value → Mem → Prop} (hJ : ∀ c l M, J c l M → PW_X11_tellsTerm X al n Q c l M) {R : Unit → Mem → Prop} (hR : ∀ v M, R v M → Q none M) {cl : Nat → List Value → Mem → Option (Unit × Mem)} (hc_X11_tellsTerm : ∀ {a0 : Nat} {x1 : Int32} {x2 : Int32} {M : Mem} {v : Unit} {M1 : Mem}, cl 0 [.ref a0, .int x1, .int x2] M = some (v, M1) → ∃ k, n = k + 1 ∧ AE yX11_tellsTerm cX11_tellsTerm 5 none al k X [.ref a0, .int x1, .int x2] M none M1) {a0 : Nat} {x1 : Int32} {x2 : Int32} {x3 : Int32} {xs0 : Int32} {ra1 : Nat} {M : Mem} (h : T_X11_tellsTerm_130 J R False cl n a0 x1 x2 x3 xs0 ra1 M) : AW X (RX11, cX11_tellsTerm, 5, none, false, al, n) 0 0 130 [(0, .ref a0), (1, .int x1), (2, .int x2), (3, .int x3)] [.int xs0, .ref ra1] M Q := by
  unfold T_X11_tellsTerm_130 at h
  refine a_iload_n dX11_tellsTerm_130 rfl rfl ?_
  obtain ⟨⟨ga1, gs2⟩, h⟩ := gd_t h
  obtain ⟨_, M3, e4, h⟩ := bnd2_t h
  obtain ⟨n5, en6, e4⟩ := hc_X11_tellsTerm e4
  refine e_callV (As := [.int xs0, .int x2]) (st := []) (a := ra1) (ci := 11) false dX11_tellsTerm_131 mw_X11_tellsTerm (Or.inl ⟨rfl, ml_X11_385⟩) im_X11_tellsTerm se_X11_tellsTerm (by decide) ga1 gs2 rfl (Nat.le_of_ble_eq_true rfl) en6 e4 ?_
  refine a_aload_n dX11_tellsTerm_134 rfl rfl ?_
  obtain ⟨⟨ga7, gs8⟩, h⟩ := gd_t h
  obtain ⟨r9, e10, h⟩ := bnd_t h
  refine a_get (v := .ref r9) dX11_tellsTerm_135 fl_11_59 ga7 gs8 (gvR e10 rfl) ?_
  refine a_iload_n dX11_tellsTerm_138 rfl rfl ?_
  obtain ⟨⟨ga11, gn12, gs13, gi14⟩, h⟩ := gd_t h
  refine a_iaload dX11_tellsTerm_139 ga11 gs13 gi14 ?_
  refine a_iconst (v := 2) dX11_tellsTerm_140 (by decide) ?_
  refine a_icmp_eq 154 dX11_tellsTerm_141 (by decide) (fun c15 => ?_) (fun c15 => ?_)
  · replace h := ite_t c15 h
    refine a_aload_n dX11_tellsTerm_154 rfl rfl ?_
    refine a_iload_n dX11_tellsTerm_155 rfl rfl ?_
    refine a_iload_n dX11_tellsTerm_156 rfl rfl ?_
    obtain ⟨_, M16, e17, h⟩ := bnd2_t h
    obtain ⟨n18, en19, e17⟩ := hc_X11_tellsTerm e17
    refine e_callV (As := [.int x1, .int x2]) (st := []) (a := a0) (ci := 11) false dX11_tellsTerm_157 mw_X11_tellsTerm (Or.inl ⟨rfl, ml_X11_385⟩) im_X11_tellsTerm se_X11_tellsTerm (by decide) ga7 gs8 rfl (Nat.le_of_ble_eq_true rfl) en19 e17 ?_
    refine a_iconst (v := 0) dX11_tellsTerm_160 (by decide) ?_
    refine a_istore dX11_tellsTerm_161 (Nat.le_of_ble_eq_true rfl) (lv2 := [(4, .int 0), (0, .ref a0), (1, .int x1), (2, .int x2), (3, .int x3)]) rfl ?_
    exact a_lv (lv2 := [(0, .ref a0), (1, .int x1), (2, .int x2), (3, .int x3), (4, .int 0)]) (fa_cons rfl (fa_cons rfl (fa_cons rfl (fa_cons rfl (fa_cons rfl fa_nil))))) (hJ _ _ _ h)
  · replace h := ite_f c15 h
    refine a_aload_n dX11_tellsTerm_144 rfl rfl ?_
    refine a_get (v := .ref r9) dX11_tellsTerm_145 fl_11_59 ga7 gs8 (gvR e10 rfl) ?_
    refine a_iload_n dX11_tellsTerm_148 rfl rfl ?_
    refine a_iaload dX11_tellsTerm_149 ga11 gs13 gi14 ?_
    refine a_iconst (v := 3) dX11_tellsTerm_150 (by decide) ?_
    refine a_icmp_ne 160 dX11_tellsTerm_151 (by decide) (fun c20 => ?_) (fun c20 => ?_)
    · replace h := ite_f c20 h
      refine a_iconst (v := 0) dX11_tellsTerm_160 (by decide) ?_
      refine a_istore dX11_tellsTerm_161 (Nat.le_of_ble_eq_true rfl) (lv2 := [(4, .int 0), (0, .ref a0), (1, .int x1), (2, .int x2), (3, .int x3)]) rfl ?_
      exact a_lv (lv2 := [(0, .ref a0), (1, .int x1), (2, .int x2), (3, .int x3), (4, .int 0)]) (fa_cons rfl (fa_cons rfl (fa_cons rfl (fa_cons rfl (fa_cons rfl fa_nil))))) (hJ _ _ _ h)
    · replace h := ite_t c20 h
      refine a_aload_n dX11_tellsTerm_154 rfl rfl ?_
      refine a_iload_n dX11_tellsTerm_155 rfl rfl ?_
      refine a_iload_n dX11_tellsTerm_156 rfl rfl ?_
      obtain ⟨_, M21, e22, h⟩ := bnd2_t h
      obtain ⟨n23, en24, e22⟩ := hc_X11_tellsTerm e22
      refine e_callV (As := [.int x1, .int x2]) (st := []) (a := a0) (ci := 11) false dX11_tellsTerm_157 mw_X11_tellsTerm (Or.inl ⟨rfl, ml_X11_385⟩) im_X11_tellsTerm se_X11_tellsTerm (by decide) ga7 gs8 rfl (Nat.le_of_ble_eq_true rfl) en24 e22 ?_
      refine a_iconst (v := 0) dX11_tellsTerm_160 (by decide) ?_
      refine a_istore dX11_tellsTerm_161 (Nat.le_of_ble_eq_true rfl) (lv2 := [(4, .int 0), (0, .ref a0), (1, .int x1), (2, .int x2), (3, .int x3)]) rfl ?_
      exact a_lv (lv2 := [(0, .ref a0), (1, .int x1), (2, .int x2), (3, .int x3), (4, .int 0)]) (fa_cons rfl (fa_cons rfl (fa_cons rfl (fa_cons rfl (fa_cons rfl fa_nil))))) (hJ _ _ _ h)
set_option maxHeartbeats 4000000 in
set_option maxRecDepth 100000 in
noncomputable def T_X11_tellsTerm_163.{u} {α : Sort u} (J : Nat → List Value → Mem → α) (R : Unit → Mem → α) (N : α) (cl : Nat → List Value → Mem → Option (Unit × Mem)) (n : Nat) (a0 : Nat) (x1 : Int32) (x2 : Int32) (x3 : Int32) (x4 : Int32) (M : Mem) : α := if 2 ≤ x4 then R () M else gd (fO M a0 11) N (bnd (M.2.2.2.2 a0 20) N (fun r4 => gd (fA M r4 1 x3) N (if (M.2.2.1 r4 (x3.toNatClampNeg)) = 8 then bnd2 (cal n (fun n => f_X11_tellsLevel n a0 x1 M)) N (fun _ M11 => gd (fO M11 a0 11) N (bnd2 (cl 0 [.ref a0, .int (x1 + 1), .int x2] M11) N (fun _ M17 => J 163 [.ref a0, .int x1, .int x2, .int x3, .int (x4 + 1)] M17))) else R () M)))
set_option maxHeartbeats 4000000 in
set_option maxRecDepth 100000 in
theorem n_X11_tellsTerm_163.{u, v} {α : Sort u} {β : Sort v} (h : α → β) (J : Nat → List Value → Mem → α) (R : Unit → Mem → α) (N : α) (cl : Nat → List Value → Mem → Option (Unit × Mem)) (n : Nat) (a0 : Nat) (x1 : Int32) (x2 : Int32) (x3 : Int32) (x4 : Int32) (M : Mem) : h (T_X11_tellsTerm_163 J R N cl n a0 x1 x2 x3 x4 M) = T_X11_tellsTerm_163 (fun c l M => h (J c l M)) (fun v M => h (R v M)) (h N) cl n a0 x1 x2 x3 x4 M := by
  simp only [T_X11_tellsTerm_163, nat_ite h, nat_gd h, nat_bnd h, nat_bnd2 h]
set_option maxHeartbeats 4000000 in
set_option maxRecDepth 100000 in
theorem w_X11_tellsTerm_163 {X : Nat × (Nat → Int32)} {al : Bool} {n : Nat} {Q : Option Value → Mem → Prop} {J : Nat → List Value → Mem → Prop} (hJ : ∀ c l M, J c l M → PW_X11_tellsTerm X al n Q c l M) {R : Unit → Mem → Prop} (hR : ∀ v M, R v M → Q none M) {cl : Nat → List Value → Mem → Option (Unit × Mem)} (hc_X11_tellsTerm : ∀ {a0 : Nat} {x1 : Int32} {x2 : Int32} {M : Mem} {v : Unit} {M1 : Mem}, cl 0 [.ref a0, .int x1, .int x2] M = some (v, M1) → ∃ k, n = k + 1 ∧ AE yX11_tellsTerm cX11_tellsTerm 5 none al k X [.ref a0, .int x1, .int x2] M none M1) {a0 : Nat} {x1 : Int32} {x2 : Int32} {x3 : Int32} {x4 : Int32} {M : Mem} (h : T_X11_tellsTerm_163 J R False cl n a0 x1 x2 x3 x4 M) : AW X (RX11, cX11_tellsTerm, 5, none, false, al, n) 0 0 163 [(0, .ref a0), (1, .int x1), (2, .int x2), (3, .int x3), (4, .int x4)] [] M Q := by
  unfold T_X11_tellsTerm_163 at h
  refine a_iload dX11_tellsTerm_163 rfl ?_
  refine a_iconst (v := 2) dX11_tellsTerm_165 (by decide) ?_
  refine a_icmp_ge 199 dX11_tellsTerm_166 (by decide) (fun c1 => ?_) (fun c1 => ?_)
  · replace h := ite_t c1 h
    exact a_vret dX11_tellsTerm_199 rfl (hR _ _ h)
  · replace h := ite_f c1 h
    refine a_aload_n dX11_tellsTerm_169 rfl rfl ?_
    obtain ⟨⟨ga2, gs3⟩, h⟩ := gd_t h
    obtain ⟨r4, e5, h⟩ := bnd_t h
    refine a_get (v := .ref r4) dX11_tellsTerm_170 fl_11_59 ga2 gs3 (gvR e5 rfl) ?_
    refine a_iload_n dX11_tellsTerm_173 rfl rfl ?_
    obtain ⟨⟨ga6, gn7, gs8, gi9⟩, h⟩ := gd_t h
    refine a_iaload dX11_tellsTerm_174 ga6 gs8 gi9 ?_
    refine a_bipush (v := 8) dX11_tellsTerm_175 (by decide) ?_
    refine a_icmp_ne 199 dX11_tellsTerm_177 (by decide) (fun c10 => ?_) (fun c10 => ?_)
    · replace h := ite_f c10 h
      exact a_vret dX11_tellsTerm_199 rfl (hR _ _ h)
    · replace h := ite_t c10 h
      refine a_aload_n dX11_tellsTerm_180 rfl rfl ?_
      refine a_iload_n dX11_tellsTerm_181 rfl rfl ?_
      obtain ⟨_, M11, e12, h⟩ := bnd2_t h
      obtain ⟨n13, en14, e12⟩ := cal_t e12
      refine e_callV (As := [.int x1]) (st := []) (a := a0) (ci := 11) false dX11_tellsTerm_182 mw_X11_tellsLevel (Or.inl ⟨rfl, ml_X11_382⟩) im_X11_tellsLevel se_X11_tellsLevel (by decide) ga2 gs3 rfl (Nat.le_of_ble_eq_true rfl) en14 (s_X11_tellsLevel e12) ?_
      refine a_aload_n dX11_tellsTerm_185 rfl rfl ?_
      refine a_iload_n dX11_tellsTerm_186 rfl rfl ?_
      refine a_iconst (v := 1) dX11_tellsTerm_187 (by decide) ?_
      refine a_iadd dX11_tellsTerm_188 ?_
      refine a_iload_n dX11_tellsTerm_189 rfl rfl ?_
      obtain ⟨⟨ga15, gs16⟩, h⟩ := gd_t h
      obtain ⟨_, M17, e18, h⟩ := bnd2_t h
      obtain ⟨n19, en20, e18⟩ := hc_X11_tellsTerm e18
      refine e_callV (As := [.int (x1 + 1), .int x2]) (st := []) (a := a0) (ci := 11) false dX11_tellsTerm_190 mw_X11_tellsTerm (Or.inl ⟨rfl, ml_X11_385⟩) im_X11_tellsTerm se_X11_tellsTerm (by decide) ga15 gs16 rfl (Nat.le_of_ble_eq_true rfl) en20 e18 ?_
      refine a_iinc (v := (x4 + 1)) dX11_tellsTerm_193 rfl (by first | rfl | decide) (Nat.le_of_ble_eq_true rfl) (lv2 := [(4, .int (x4 + 1)), (0, .ref a0), (1, .int x1), (2, .int x2), (3, .int x3)]) rfl ?_
      refine a_goto 163 dX11_tellsTerm_196 (by decide) ?_
      exact a_lv (lv2 := [(0, .ref a0), (1, .int x1), (2, .int x2), (3, .int x3), (4, .int (x4 + 1))]) (fa_cons rfl (fa_cons rfl (fa_cons rfl (fa_cons rfl (fa_cons rfl fa_nil))))) (hJ _ _ _ h)
set_option maxHeartbeats 4000000 in
set_option maxRecDepth 100000 in
noncomputable def st_X11_tellsTerm (cl : Nat → List Value → Mem → Option (Unit × Mem)) (n : Nat) (s : Sg) : Option (Sg ⊕ (Unit × Mem)) := if s.1 = 0 then vR s.2.1 none (fun a0 t => vI t none (fun x1 t => vI t none (fun x2 t => vE t none (T_X11_tellsTerm_0 (fun c l M => some (.inl (c, l, M))) (fun v M => some (.inr (v, M))) none cl n a0 x1 x2 s.2.2)))) else if s.1 = 89 then vR s.2.1 none (fun a0 t => vI t none (fun x1 t => vI t none (fun x2 t => vI t none (fun x3 t => vE t none (T_X11_tellsTerm_89 (fun c l M => some (.inl (c, l, M))) (fun v M => some (.inr (v, M))) none cl n a0 x1 x2 x3 s.2.2))))) else if s.1 = 112 then vR s.2.1 none (fun a0 t => vI t none (fun x1 t => vI t none (fun x2 t => vI t none (fun x3 t => vE t none (T_X11_tellsTerm_112 (fun c l M => some (.inl (c, l, M))) (fun v M => some (.inr (v, M))) none cl n a0 x1 x2 x3 s.2.2))))) else if s.1 = 130 then vR s.2.1 none (fun a0 t => vI t none (fun x1 t => vI t none (fun x2 t => vI t none (fun x3 t => vI t none (fun xs0 t => vR t none (fun ra1 t => vE t none (T_X11_tellsTerm_130 (fun c l M => some (.inl (c, l, M))) (fun v M => some (.inr (v, M))) none cl n a0 x1 x2 x3 xs0 ra1 s.2.2))))))) else if s.1 = 163 then vR s.2.1 none (fun a0 t => vI t none (fun x1 t => vI t none (fun x2 t => vI t none (fun x3 t => vI t none (fun x4 t => vE t none (T_X11_tellsTerm_163 (fun c l M => some (.inl (c, l, M))) (fun v M => some (.inr (v, M))) none cl n a0 x1 x2 x3 x4 s.2.2)))))) else none
noncomputable abbrev g_X11_tellsTerm_0 (cl : Nat → List Value → Mem → Option (Unit × Mem)) (n : Nat) (a0 : Nat) (x1 : Int32) (x2 : Int32) (M : Mem) : Option (Unit × Mem) := lp (st_X11_tellsTerm cl n) (0, [.ref a0, .int x1, .int x2], M)
set_option maxHeartbeats 4000000 in
set_option maxRecDepth 100000 in
theorem ge_X11_tellsTerm_0 (cl : Nat → List Value → Mem → Option (Unit × Mem)) (n : Nat) (a0 : Nat) (x1 : Int32) (x2 : Int32) (M : Mem) : g_X11_tellsTerm_0 cl n a0 x1 x2 M = T_X11_tellsTerm_0 (fun c l M => lp (st_X11_tellsTerm cl n) (c, l, M)) (fun v M => some (v, M)) none cl n a0 x1 x2 M := (lp_eq _ _).trans (n_X11_tellsTerm_0 (lpK (st_X11_tellsTerm cl n)) (fun c l M => some (.inl (c, l, M))) (fun v M => some (.inr (v, M))) none cl n a0 x1 x2 M)
noncomputable abbrev g_X11_tellsTerm_89 (cl : Nat → List Value → Mem → Option (Unit × Mem)) (n : Nat) (a0 : Nat) (x1 : Int32) (x2 : Int32) (x3 : Int32) (M : Mem) : Option (Unit × Mem) := lp (st_X11_tellsTerm cl n) (89, [.ref a0, .int x1, .int x2, .int x3], M)
set_option maxHeartbeats 4000000 in
set_option maxRecDepth 100000 in
theorem ge_X11_tellsTerm_89 (cl : Nat → List Value → Mem → Option (Unit × Mem)) (n : Nat) (a0 : Nat) (x1 : Int32) (x2 : Int32) (x3 : Int32) (M : Mem) : g_X11_tellsTerm_89 cl n a0 x1 x2 x3 M = T_X11_tellsTerm_89 (fun c l M => lp (st_X11_tellsTerm cl n) (c, l, M)) (fun v M => some (v, M)) none cl n a0 x1 x2 x3 M := (lp_eq _ _).trans (n_X11_tellsTerm_89 (lpK (st_X11_tellsTerm cl n)) (fun c l M => some (.inl (c, l, M))) (fun v M => some (.inr (v, M))) none cl n a0 x1 x2 x3 M)
noncomputable abbrev g_X11_tellsTerm_112 (cl : Nat → List Value → Mem → Option (Unit × Mem)) (n : Nat) (a0 : Nat) (x1 : Int32) (x2 : Int32) (x3 : Int32) (M : Mem) : Option (Unit × Mem) := lp (st_X11_tellsTerm cl n) (112, [.ref a0, .int x1, .int x2, .int x3], M)
set_option maxHeartbeats 4000000 in
set_option maxRecDepth 100000 in
theorem ge_X11_tellsTerm_112 (cl : Nat → List Value → Mem → Option (Unit × Mem)) (n : Nat) (a0 : Nat) (x1 : Int32) (x2 : Int32) (x3 : Int32) (M : Mem) : g_X11_tellsTerm_112 cl n a0 x1 x2 x3 M = T_X11_tellsTerm_112 (fun c l M => lp (st_X11_tellsTerm cl n) (c, l, M)) (fun v M => some (v, M)) none cl n a0 x1 x2 x3 M := (lp_eq _ _).trans (n_X11_tellsTerm_112 (lpK (st_X11_tellsTerm cl n)) (fun c l M => some (.inl (c, l, M))) (fun v M => some (.inr (v, M))) none cl n a0 x1 x2 x3 M)
noncomputable abbrev g_X11_tellsTerm_130 (cl : Nat → List Value → Mem → Option (Unit × Mem)) (n : Nat) (a0 : Nat) (x1 : Int32) (x2 : Int32) (x3 : Int32) (xs0 : Int32) (ra1 : Nat) (M : Mem) : Option (Unit × Mem) := lp (st_X11_tellsTerm cl n) (130, [.ref a0, .int x1, .int x2, .int x3, .int xs0, .ref ra1], M)
set_option maxHeartbeats 4000000 in
set_option maxRecDepth 100000 in
theorem ge_X11_tellsTerm_130 (cl : Nat → List Value → Mem → Option (Unit × Mem)) (n : Nat) (a0 : Nat) (x1 : Int32) (x2 : Int32) (x3 : Int32) (xs0 : Int32) (ra1 : Nat) (M : Mem) : g_X11_tellsTerm_130 cl n a0 x1 x2 x3 xs0 ra1 M = T_X11_tellsTerm_130 (fun c l M => lp (st_X11_tellsTerm cl n) (c, l, M)) (fun v M => some (v, M)) none cl n a0 x1 x2 x3 xs0 ra1 M := (lp_eq _ _).trans (n_X11_tellsTerm_130 (lpK (st_X11_tellsTerm cl n)) (fun c l M => some (.inl (c, l, M))) (fun v M => some (.inr (v, M))) none cl n a0 x1 x2 x3 xs0 ra1 M)
noncomputable abbrev g_X11_tellsTerm_163 (cl : Nat → List Value → Mem → Option (Unit × Mem)) (n : Nat) (a0 : Nat) (x1 : Int32) (x2 : Int32) (x3 : Int32) (x4 : Int32) (M : Mem) : Option (Unit × Mem) := lp (st_X11_tellsTerm cl n) (163, [.ref a0, .int x1, .int x2, .int x3, .int x4], M)
set_option maxHeartbeats 4000000 in
set_option maxRecDepth 100000 in
theorem ge_X11_tellsTerm_163 (cl : Nat → List Value → Mem → Option (Unit × Mem)) (n : Nat) (a0 : Nat) (x1 : Int32) (x2 : Int32) (x3 : Int32) (x4 : Int32) (M : Mem) : g_X11_tellsTerm_163 cl n a0 x1 x2 x3 x4 M = T_X11_tellsTerm_163 (fun c l M => lp (st_X11_tellsTerm cl n) (c, l, M)) (fun v M => some (v, M)) none cl n a0 x1 x2 x3 x4 M := (lp_eq _ _).trans (n_X11_tellsTerm_163 (lpK (st_X11_tellsTerm cl n)) (fun c l M => some (.inl (c, l, M))) (fun v M => some (.inr (v, M))) none cl n a0 x1 x2 x3 x4 M)
noncomputable def b_X11_tellsTerm (cl : Nat → List Value → Mem → Option (Unit × Mem)) (n : Nat) (a0 : Nat) (x1 : Int32) (x2 : Int32) (M : Mem) : Option (Unit × Mem) := g_X11_tellsTerm_0 cl n a0 x1 x2 M
set_option maxHeartbeats 4000000 in
set_option maxRecDepth 100000 in
theorem sb_X11_tellsTerm {X : Nat × (Nat → Int32)} {al : Bool} {n : Nat} {cl : Nat → List Value → Mem → Option (Unit × Mem)} (hc_X11_tellsTerm : ∀ {a0 : Nat} {x1 : Int32} {x2 : Int32} {M : Mem} {v : Unit} {M1 : Mem}, cl 0 [.ref a0, .int x1, .int x2] M = some (v, M1) → ∃ k, n = k + 1 ∧ AE yX11_tellsTerm cX11_tellsTerm 5 none al k X [.ref a0, .int x1, .int x2] M none M1) {a0 : Nat} {x1 : Int32} {x2 : Int32} {M : Mem} {v : Unit} {M1 : Mem} (h : b_X11_tellsTerm cl n a0 x1 x2 M = some (v, M1)) : AE yX11_tellsTerm cX11_tellsTerm 5 none al n X [.ref a0, .int x1, .int x2] M none M1 := by
  refine AM.of false (by decide +kernel) (by intro h; cases h) (Nat.le_of_ble_eq_true rfl) ?_
  refine lp_snd (P := fun s r => PW_X11_tellsTerm X al n (fun v M2 => v = none ∧ M2 = r.2) s.1 s.2.1 s.2.2) ?_ h
  clear h
  rintro ⟨c, l, M⟩ r h
  unfold st_X11_tellsTerm at h
  rcases ite_p h with ⟨e, h⟩ | ⟨e, h⟩
  · replace e : c = 0 := e
    subst e
    obtain ⟨a0, tt0, e, h⟩ := vR_p id h
    replace e : l = _ := e
    subst e
    obtain ⟨x1, tt1, e, h⟩ := vI_p id h
    replace e : tt0 = _ := e
    subst e
    obtain ⟨x2, tt2, e, h⟩ := vI_p id h
    replace e : tt1 = _ := e
    subst e
    obtain ⟨e, h⟩ := vE_p id h
    replace e : tt2 = [] := e
    subst e
    exact w_X11_tellsTerm_0 (J := fun c l M => PW_X11_tellsTerm X al n (fun v M2 => v = none ∧ M2 = r.2) c l M) (R := fun v M => (v, M) = r) (fun _ _ _ h => h) (fun v M h => by cases h; exact ⟨rfl, rfl⟩) hc_X11_tellsTerm ((n_X11_tellsTerm_0 (lpP (fun (s : Sg) (r : Unit × Mem) => PW_X11_tellsTerm X al n (fun v M2 => v = none ∧ M2 = r.2) s.1 s.2.1 s.2.2) r) (fun c l M => some (.inl (c, l, M))) (fun v M => some (.inr (v, M))) none cl n a0 x1 x2 M).mp h)
  rcases ite_p h with ⟨e, h⟩ | ⟨e, h⟩
  · replace e : c = 89 := e
    subst e
    obtain ⟨a0, tt0, e, h⟩ := vR_p id h
    replace e : l = _ := e
    subst e
    obtain ⟨x1, tt1, e, h⟩ := vI_p id h
    replace e : tt0 = _ := e
    subst e
    obtain ⟨x2, tt2, e, h⟩ := vI_p id h
    replace e : tt1 = _ := e
    subst e
    obtain ⟨x3, tt3, e, h⟩ := vI_p id h
    replace e : tt2 = _ := e
    subst e
    obtain ⟨e, h⟩ := vE_p id h
    replace e : tt3 = [] := e
    subst e
    exact w_X11_tellsTerm_89 (J := fun c l M => PW_X11_tellsTerm X al n (fun v M2 => v = none ∧ M2 = r.2) c l M) (R := fun v M => (v, M) = r) (fun _ _ _ h => h) (fun v M h => by cases h; exact ⟨rfl, rfl⟩) hc_X11_tellsTerm ((n_X11_tellsTerm_89 (lpP (fun (s : Sg) (r : Unit × Mem) => PW_X11_tellsTerm X al n (fun v M2 => v = none ∧ M2 = r.2) s.1 s.2.1 s.2.2) r) (fun c l M => some (.inl (c, l, M))) (fun v M => some (.inr (v, M))) none cl n a0 x1 x2 x3 M).mp h)
  rcases ite_p h with ⟨e, h⟩ | ⟨e, h⟩
  · replace e : c = 112 := e
    subst e
    obtain ⟨a0, tt0, e, h⟩ := vR_p id h
    replace e : l = _ := e
    subst e
    obtain ⟨x1, tt1, e, h⟩ := vI_p id h
    replace e : tt0 = _ := e
    subst e
    obtain ⟨x2, tt2, e, h⟩ := vI_p id h
    replace e : tt1 = _ := e
    subst e
    obtain ⟨x3, tt3, e, h⟩ := vI_p id h
    replace e : tt2 = _ := e
    subst e
    obtain ⟨e, h⟩ := vE_p id h
    replace e : tt3 = [] := e
    subst e
    exact w_X11_tellsTerm_112 (J := fun c l M => PW_X11_tellsTerm X al n (fun v M2 => v = none ∧ M2 = r.2) c l M) (R := fun v M => (v, M) = r) (fun _ _ _ h => h) (fun v M h => by cases h; exact ⟨rfl, rfl⟩) hc_X11_tellsTerm ((n_X11_tellsTerm_112 (lpP (fun (s : Sg) (r : Unit × Mem) => PW_X11_tellsTerm X al n (fun v M2 => v = none ∧ M2 = r.2) s.1 s.2.1 s.2.2) r) (fun c l M => some (.inl (c, l, M))) (fun v M => some (.inr (v, M))) none cl n a0 x1 x2 x3 M).mp h)
  rcases ite_p h with ⟨e, h⟩ | ⟨e, h⟩
  · replace e : c = 130 := e
    subst e
    obtain ⟨a0, tt0, e, h⟩ := vR_p id h
    replace e : l = _ := e
    subst e
    obtain ⟨x1, tt1, e, h⟩ := vI_p id h
    replace e : tt0 = _ := e
    subst e
    obtain ⟨x2, tt2, e, h⟩ := vI_p id h
    replace e : tt1 = _ := e
    subst e
    obtain ⟨x3, tt3, e, h⟩ := vI_p id h
    replace e : tt2 = _ := e
    subst e
    obtain ⟨xs0, tt4, e, h⟩ := vI_p id h
    replace e : tt3 = _ := e
    subst e
    obtain ⟨ra1, tt5, e, h⟩ := vR_p id h
    replace e : tt4 = _ := e
    subst e
    obtain ⟨e, h⟩ := vE_p id h
    replace e : tt5 = [] := e
    subst e
    exact w_X11_tellsTerm_130 (J := fun c l M => PW_X11_tellsTerm X al n (fun v M2 => v = none ∧ M2 = r.2) c l M) (R := fun v M => (v, M) = r) (fun _ _ _ h => h) (fun v M h => by cases h; exact ⟨rfl, rfl⟩) hc_X11_tellsTerm ((n_X11_tellsTerm_130 (lpP (fun (s : Sg) (r : Unit × Mem) => PW_X11_tellsTerm X al n (fun v M2 => v = none ∧ M2 = r.2) s.1 s.2.1 s.2.2) r) (fun c l M => some (.inl (c, l, M))) (fun v M => some (.inr (v, M))) none cl n a0 x1 x2 x3 xs0 ra1 M).mp h)
  rcases ite_p h with ⟨e, h⟩ | ⟨e, h⟩
  · replace e : c = 163 := e
    subst e
    obtain ⟨a0, tt0, e, h⟩ := vR_p id h
    replace e : l = _ := e
    subst e
    obtain ⟨x1, tt1, e, h⟩ := vI_p id h
    replace e : tt0 = _ := e
    subst e
    obtain ⟨x2, tt2, e, h⟩ := vI_p id h
    replace e : tt1 = _ := e
    subst e
    obtain ⟨x3, tt3, e, h⟩ := vI_p id h
    replace e : tt2 = _ := e
    subst e
    obtain ⟨x4, tt4, e, h⟩ := vI_p id h
    replace e : tt3 = _ := e
    subst e
    obtain ⟨e, h⟩ := vE_p id h
    replace e : tt4 = [] := e
    subst e
    exact w_X11_tellsTerm_163 (J := fun c l M => PW_X11_tellsTerm X al n (fun v M2 => v = none ∧ M2 = r.2) c l M) (R := fun v M => (v, M) = r) (fun _ _ _ h => h) (fun v M h => by cases h; exact ⟨rfl, rfl⟩) hc_X11_tellsTerm ((n_X11_tellsTerm_163 (lpP (fun (s : Sg) (r : Unit × Mem) => PW_X11_tellsTerm X al n (fun v M2 => v = none ∧ M2 = r.2) s.1 s.2.1 s.2.2) r) (fun c l M => some (.inl (c, l, M))) (fun v M => some (.inr (v, M))) none cl n a0 x1 x2 x3 x4 M).mp h)
  · exact h.elim

noncomputable def F_X11_tellsTerm (cl : Nat → List Value → Mem → Option (Unit × Mem)) (n k : Nat) (l : List Value) (M : Mem) : Option (Unit × Mem) := if k = 0 then vR l none (fun a0 t => vI t none (fun x1 t => vI t none (fun x2 t => vE t none (b_X11_tellsTerm cl n a0 x1 x2 M)))) else none
noncomputable def r_X11_tellsTerm : Nat → Nat → List Value → Mem → Option (Unit × Mem)
  | 0 => F_X11_tellsTerm (fun _ _ _ => none) 0
  | n + 1 => F_X11_tellsTerm (r_X11_tellsTerm n) (n + 1)
noncomputable abbrev f_X11_tellsTerm (n : Nat) (a0 : Nat) (x1 : Int32) (x2 : Int32) (M : Mem) : Option (Unit × Mem) := r_X11_tellsTerm n 0 [.ref a0, .int x1, .int x2] M
set_option maxHeartbeats 4000000 in
set_option maxRecDepth 100000 in
theorem sr_X11_tellsTerm {X : Nat × (Nat → Int32)} {al : Bool} : ∀ n : Nat, (∀ {a0 : Nat} {x1 : Int32} {x2 : Int32} {M : Mem} {v : Unit} {M1 : Mem}, f_X11_tellsTerm n a0 x1 x2 M = some (v, M1) → AE yX11_tellsTerm cX11_tellsTerm 5 none al n X [.ref a0, .int x1, .int x2] M none M1) := by
  intro n
  induction n with
  | zero => exact (fun h => sb_X11_tellsTerm (cl := fun _ _ _ => none) (fun h => by cases h) h)
  | succ n ih => exact (fun h => sb_X11_tellsTerm (cl := r_X11_tellsTerm n) (fun h => ⟨n, rfl, ih h⟩) h)
theorem s_X11_tellsTerm {X : Nat × (Nat → Int32)} {al : Bool} {n : Nat} {a0 : Nat} {x1 : Int32} {x2 : Int32} {M : Mem} {v : Unit} {M1 : Mem} (h : f_X11_tellsTerm n a0 x1 x2 M = some (v, M1)) : AE yX11_tellsTerm cX11_tellsTerm 5 none al n X [.ref a0, .int x1, .int x2] M none M1 := (sr_X11_tellsTerm n) h
