/-! METHODS AS FUNCTIONS, written by wip/gen/shallow.py -/
def ix_X11_redexAt (c : Nat) : List Nat := if c = 0 then [0, 1] else if c = 80 then [0, 1, 2] else []
def PW_X11_redexAt (X : Nat × (Nat → Int32)) (al : Bool) (n : Nat) (Q : Option Value → Mem → Prop) (c : Nat) (l : List Value) (M : Mem) : Prop := AW X (RX11, cX11_redexAt, 4, (some .int), false, al, n) 0 0 c (List.zip (ix_X11_redexAt c) l) (l.drop (ix_X11_redexAt c).length) M Q
set_option maxHeartbeats 4000000 in
set_option maxRecDepth 100000 in
noncomputable def T_X11_redexAt_0.{u} {α : Sort u} (J : Nat → List Value → Mem → α) (R : Int32 → Mem → α) (N : α) (n : Nat) (a0 : Nat) (x1 : Int32) (M : Mem) : α := gd (fO M a0 11) N (bnd (M.2.2.2.2 a0 20) N (fun r3 => gd (fA M r3 1 x1) N (bnd2 (cal n (fun n => f_X11_arity n (M.2.2.1 r3 (x1.toNatClampNeg)) M)) N (fun v9 M10 => if v9 = 0 then R 0 M10 else gd (fO M10 a0 11) N (bnd (M10.2.2.2.2 a0 20) N (fun r17 => gd (fA M10 r17 1 (x1 + 1)) N (gd (fA M10 r17 1 x1) N (if (M10.2.2.1 r17 (x1.toNatClampNeg)) = 2 then J 80 [.ref a0, .int x1, .int (M10.2.2.1 r17 ((x1 + 1).toNatClampNeg)), .int 1] M10 else if (M10.2.2.1 r17 (x1.toNatClampNeg)) = 4 then J 80 [.ref a0, .int x1, .int (M10.2.2.1 r17 ((x1 + 1).toNatClampNeg)), .int 1] M10 else if (M10.2.2.1 r17 (x1.toNatClampNeg)) = 5 then J 80 [.ref a0, .int x1, .int (M10.2.2.1 r17 ((x1 + 1).toNatClampNeg)), .int 1] M10 else if (M10.2.2.1 r17 (x1.toNatClampNeg)) = 8 then J 80 [.ref a0, .int x1, .int (M10.2.2.1 r17 ((x1 + 1).toNatClampNeg)), .int 1] M10 else if (M10.2.2.1 r17 (x1.toNatClampNeg)) = 9 then J 80 [.ref a0, .int x1, .int (M10.2.2.1 r17 ((x1 + 1).toNatClampNeg)), .int 1] M10 else J 80 [.ref a0, .int x1, .int (M10.2.2.1 r17 ((x1 + 1).toNatClampNeg)), .int 0] M10))))))))
set_option maxHeartbeats 4000000 in
set_option maxRecDepth 100000 in
theorem n_X11_redexAt_0.{u, v} {α : Sort u} {β : Sort v} (h : α → β) (J : Nat → List Value → Mem → α) (R : Int32 → Mem → α) (N : α) (n : Nat) (a0 : Nat) (x1 : Int32) (M : Mem) : h (T_X11_redexAt_0 J R N n a0 x1 M) = T_X11_redexAt_0 (fun c l M => h (J c l M)) (fun v M => h (R v M)) (h N) n a0 x1 M := by
  simp only [T_X11_redexAt_0, nat_ite h, nat_gd h, nat_bnd h, nat_bnd2 h]
set_option maxHeartbeats 4000000 in
set_option maxRecDepth 100000 in
theorem w_X11_redexAt_0 {X : Nat × (Nat → Int32)} {al : Bool} {n : Nat} {Q : Option Value → Mem → Prop} {J : Nat → List Value → Mem → Prop} (hJ : ∀ c l M, J c l M → PW_X11_redexAt X al n Q c l M) {R : Int32 → Mem → Prop} (hR : ∀ v M, R v M → Q (some (.int v)) M) {a0 : Nat} {x1 : Int32} {M : Mem} (h : T_X11_redexAt_0 J R False n a0 x1 M) : AW X (RX11, cX11_redexAt, 4, (some .int), false, al, n) 0 0 0 [(0, .ref a0), (1, .int x1)] [] M Q := by
  unfold T_X11_redexAt_0 at h
  refine a_aload_n dX11_redexAt_0 rfl rfl ?_
  obtain ⟨⟨ga1, gs2⟩, h⟩ := gd_t h
  obtain ⟨r3, e4, h⟩ := bnd_t h
  refine a_get (v := .ref r3) dX11_redexAt_1 fl_11_59 ga1 gs2 (gvR e4 rfl) ?_
  refine a_iload_n dX11_redexAt_4 rfl rfl ?_
  obtain ⟨⟨ga5, gn6, gs7, gi8⟩, h⟩ := gd_t h
  refine a_iaload dX11_redexAt_5 ga5 gs7 gi8 ?_
  obtain ⟨v9, M10, e11, h⟩ := bnd2_t h
  obtain ⟨n12, en13, e11⟩ := cal_t e11
  refine e_callS (As := [.int (M.2.2.1 r3 (x1.toNatClampNeg))]) (st := []) false dX11_redexAt_6 mw_X11_arity (Or.inl ⟨rfl, ml_X11_297⟩) sm_X11_arity rfl (Nat.le_of_ble_eq_true rfl) en13 (s_X11_arity e11) ?_
  refine a_if_ne 14 dX11_redexAt_9 (by decide) (fun c14 => ?_) (fun c14 => ?_)
  · replace h := ite_f c14 h
    refine a_aload_n dX11_redexAt_14 rfl rfl ?_
    obtain ⟨⟨ga15, gs16⟩, h⟩ := gd_t h
    obtain ⟨r17, e18, h⟩ := bnd_t h
    refine a_get (v := .ref r17) dX11_redexAt_15 fl_11_59 ga15 gs16 (gvR e18 rfl) ?_
    refine a_iload_n dX11_redexAt_18 rfl rfl ?_
    refine a_iconst (v := 1) dX11_redexAt_19 (by decide) ?_
    refine a_iadd dX11_redexAt_20 ?_
    obtain ⟨⟨ga19, gn20, gs21, gi22⟩, h⟩ := gd_t h
    refine a_iaload dX11_redexAt_21 ga19 gs21 gi22 ?_
    refine a_istore_n dX11_redexAt_22 rfl (Nat.le_of_ble_eq_true rfl) (lv2 := [(2, .int (M10.2.2.1 r17 ((x1 + 1).toNatClampNeg))), (0, .ref a0), (1, .int x1)]) rfl ?_
    refine a_aload_n dX11_redexAt_23 rfl rfl ?_
    refine a_get (v := .ref r17) dX11_redexAt_24 fl_11_59 ga15 gs16 (gvR e18 rfl) ?_
    refine a_iload_n dX11_redexAt_27 rfl rfl ?_
    obtain ⟨⟨ga23, gn24, gs25, gi26⟩, h⟩ := gd_t h
    refine a_iaload dX11_redexAt_28 ga23 gs25 gi26 ?_
    refine a_iconst (v := 2) dX11_redexAt_29 (by decide) ?_
    refine a_icmp_eq 75 dX11_redexAt_30 (by decide) (fun c27 => ?_) (fun c27 => ?_)
    · replace h := ite_t c27 h
      refine a_iconst (v := 1) dX11_redexAt_75 (by decide) ?_
      refine a_goto 80 dX11_redexAt_76 (by decide) ?_
      exact a_lv (lv2 := [(0, .ref a0), (1, .int x1), (2, .int (M10.2.2.1 r17 ((x1 + 1).toNatClampNeg)))]) (fa_cons rfl (fa_cons rfl (fa_cons rfl fa_nil))) (hJ _ _ _ h)
    · replace h := ite_f c27 h
      refine a_aload_n dX11_redexAt_33 rfl rfl ?_
      refine a_get (v := .ref r17) dX11_redexAt_34 fl_11_59 ga15 gs16 (gvR e18 rfl) ?_
      refine a_iload_n dX11_redexAt_37 rfl rfl ?_
      refine a_iaload dX11_redexAt_38 ga23 gs25 gi26 ?_
      refine a_iconst (v := 4) dX11_redexAt_39 (by decide) ?_
      refine a_icmp_eq 75 dX11_redexAt_40 (by decide) (fun c28 => ?_) (fun c28 => ?_)
      · replace h := ite_t c28 h
        refine a_iconst (v := 1) dX11_redexAt_75 (by decide) ?_
        refine a_goto 80 dX11_redexAt_76 (by decide) ?_
        exact a_lv (lv2 := [(0, .ref a0), (1, .int x1), (2, .int (M10.2.2.1 r17 ((x1 + 1).toNatClampNeg)))]) (fa_cons rfl (fa_cons rfl (fa_cons rfl fa_nil))) (hJ _ _ _ h)
      · replace h := ite_f c28 h
        refine a_aload_n dX11_redexAt_43 rfl rfl ?_
        refine a_get (v := .ref r17) dX11_redexAt_44 fl_11_59 ga15 gs16 (gvR e18 rfl) ?_
        refine a_iload_n dX11_redexAt_47 rfl rfl ?_
        refine a_iaload dX11_redexAt_48 ga23 gs25 gi26 ?_
        refine a_iconst (v := 5) dX11_redexAt_49 (by decide) ?_
        refine a_icmp_eq 75 dX11_redexAt_50 (by decide) (fun c29 => ?_) (fun c29 => ?_)
        · replace h := ite_t c29 h
          refine a_iconst (v := 1) dX11_redexAt_75 (by decide) ?_
          refine a_goto 80 dX11_redexAt_76 (by decide) ?_
          exact a_lv (lv2 := [(0, .ref a0), (1, .int x1), (2, .int (M10.2.2.1 r17 ((x1 + 1).toNatClampNeg)))]) (fa_cons rfl (fa_cons rfl (fa_cons rfl fa_nil))) (hJ _ _ _ h)
        · replace h := ite_f c29 h
          refine a_aload_n dX11_redexAt_53 rfl rfl ?_
          refine a_get (v := .ref r17) dX11_redexAt_54 fl_11_59 ga15 gs16 (gvR e18 rfl) ?_
          refine a_iload_n dX11_redexAt_57 rfl rfl ?_
          refine a_iaload dX11_redexAt_58 ga23 gs25 gi26 ?_
          refine a_bipush (v := 8) dX11_redexAt_59 (by decide) ?_
          refine a_icmp_eq 75 dX11_redexAt_61 (by decide) (fun c30 => ?_) (fun c30 => ?_)
          · replace h := ite_t c30 h
            refine a_iconst (v := 1) dX11_redexAt_75 (by decide) ?_
            refine a_goto 80 dX11_redexAt_76 (by decide) ?_
            exact a_lv (lv2 := [(0, .ref a0), (1, .int x1), (2, .int (M10.2.2.1 r17 ((x1 + 1).toNatClampNeg)))]) (fa_cons rfl (fa_cons rfl (fa_cons rfl fa_nil))) (hJ _ _ _ h)
          · replace h := ite_f c30 h
            refine a_aload_n dX11_redexAt_64 rfl rfl ?_
            refine a_get (v := .ref r17) dX11_redexAt_65 fl_11_59 ga15 gs16 (gvR e18 rfl) ?_
            refine a_iload_n dX11_redexAt_68 rfl rfl ?_
            refine a_iaload dX11_redexAt_69 ga23 gs25 gi26 ?_
            refine a_bipush (v := 9) dX11_redexAt_70 (by decide) ?_
            refine a_icmp_ne 79 dX11_redexAt_72 (by decide) (fun c31 => ?_) (fun c31 => ?_)
            · replace h := ite_f c31 h
              refine a_iconst (v := 0) dX11_redexAt_79 (by decide) ?_
              exact a_lv (lv2 := [(0, .ref a0), (1, .int x1), (2, .int (M10.2.2.1 r17 ((x1 + 1).toNatClampNeg)))]) (fa_cons rfl (fa_cons rfl (fa_cons rfl fa_nil))) (hJ _ _ _ h)
            · replace h := ite_t c31 h
              refine a_iconst (v := 1) dX11_redexAt_75 (by decide) ?_
              refine a_goto 80 dX11_redexAt_76 (by decide) ?_
              exact a_lv (lv2 := [(0, .ref a0), (1, .int x1), (2, .int (M10.2.2.1 r17 ((x1 + 1).toNatClampNeg)))]) (fa_cons rfl (fa_cons rfl (fa_cons rfl fa_nil))) (hJ _ _ _ h)
  · replace h := ite_t c14 h
    refine a_iconst (v := 0) dX11_redexAt_12 (by decide) ?_
    exact a_iret dX11_redexAt_13 rfl (hR _ _ h)
set_option maxHeartbeats 4000000 in
set_option maxRecDepth 100000 in
noncomputable def T_X11_redexAt_80.{u} {α : Sort u} (J : Nat → List Value → Mem → α) (R : Int32 → Mem → α) (N : α) (n : Nat) (a0 : Nat) (x1 : Int32) (x2 : Int32) (xs0 : Int32) (M : Mem) : α := if xs0 = 0 then R 0 M else if x2 = 8 then R 6 M else if x2 = 9 then R 7 M else gd (fO M a0 11) N (bnd (M.2.2.2.2 a0 20) N (fun r6 => gd (fA M r6 1 x1) N (if (M.2.2.1 r6 (x1.toNatClampNeg)) = 2 then if x2 = 1 then R 1 M else R 0 M else if (M.2.2.1 r6 (x1.toNatClampNeg)) = 3 then R 0 M else if (M.2.2.1 r6 (x1.toNatClampNeg)) = 4 then if x2 = 3 then R 2 M else R 0 M else if (M.2.2.1 r6 (x1.toNatClampNeg)) = 5 then if x2 = 3 then R 3 M else R 0 M else if (M.2.2.1 r6 (x1.toNatClampNeg)) = 6 then R 0 M else if (M.2.2.1 r6 (x1.toNatClampNeg)) = 7 then R 0 M else if (M.2.2.1 r6 (x1.toNatClampNeg)) = 8 then if x2 = 6 then R 4 M else if x2 = 7 then R 5 M else R 0 M else R 0 M)))
set_option maxHeartbeats 4000000 in
set_option maxRecDepth 100000 in
theorem n_X11_redexAt_80.{u, v} {α : Sort u} {β : Sort v} (h : α → β) (J : Nat → List Value → Mem → α) (R : Int32 → Mem → α) (N : α) (n : Nat) (a0 : Nat) (x1 : Int32) (x2 : Int32) (xs0 : Int32) (M : Mem) : h (T_X11_redexAt_80 J R N n a0 x1 x2 xs0 M) = T_X11_redexAt_80 (fun c l M => h (J c l M)) (fun v M => h (R v M)) (h N) n a0 x1 x2 xs0 M := by
  simp only [T_X11_redexAt_80, nat_ite h, nat_gd h, nat_bnd h, nat_bnd2 h]
set_option maxHeartbeats 4000000 in
set_option maxRecDepth 100000 in
theorem w_X11_redexAt_80 {X : Nat × (Nat → Int32)} {al : Bool} {n : Nat} {Q : Option Value → Mem → Prop} {J : Nat → List Value → Mem → Prop} (hJ : ∀ c l M, J c l M → PW_X11_redexAt X al n Q c l M) {R : Int32 → Mem → Prop} (hR : ∀ v M, R v M → Q (some (.int v)) M) {a0 : Nat} {x1 : Int32} {x2 : Int32} {xs0 : Int32} {M : Mem} (h : T_X11_redexAt_80 J R False n a0 x1 x2 xs0 M) : AW X (RX11, cX11_redexAt, 4, (some .int), false, al, n) 0 0 80 [(0, .ref a0), (1, .int x1), (2, .int x2)] [.int xs0] M Q := by
  unfold T_X11_redexAt_80 at h
  refine a_istore_n dX11_redexAt_80 rfl (Nat.le_of_ble_eq_true rfl) (lv2 := [(3, .int xs0), (0, .ref a0), (1, .int x1), (2, .int x2)]) rfl ?_
  refine a_iload_n dX11_redexAt_81 rfl rfl ?_
  refine a_if_ne 87 dX11_redexAt_82 (by decide) (fun c1 => ?_) (fun c1 => ?_)
  · replace h := ite_f c1 h
    refine a_iload_n dX11_redexAt_87 rfl rfl ?_
    refine a_bipush (v := 8) dX11_redexAt_88 (by decide) ?_
    refine a_icmp_ne 96 dX11_redexAt_90 (by decide) (fun c2 => ?_) (fun c2 => ?_)
    · replace h := ite_f c2 h
      refine a_iload_n dX11_redexAt_96 rfl rfl ?_
      refine a_bipush (v := 9) dX11_redexAt_97 (by decide) ?_
      refine a_icmp_ne 105 dX11_redexAt_99 (by decide) (fun c3 => ?_) (fun c3 => ?_)
      · replace h := ite_f c3 h
        refine a_aload_n dX11_redexAt_105 rfl rfl ?_
        obtain ⟨⟨ga4, gs5⟩, h⟩ := gd_t h
        obtain ⟨r6, e7, h⟩ := bnd_t h
        refine a_get (v := .ref r6) dX11_redexAt_106 fl_11_59 ga4 gs5 (gvR e7 rfl) ?_
        refine a_iload_n dX11_redexAt_109 rfl rfl ?_
        obtain ⟨⟨ga8, gn9, gs10, gi11⟩, h⟩ := gd_t h
        refine a_iaload dX11_redexAt_110 ga8 gs10 gi11 ?_
        by_cases c12 : (M.2.2.1 r6 (x1.toNatClampNeg)) = 2
        · replace h := ite_t c12 h
          refine a_tableIn (off := 41) 152 dX11_redexAt_111 (by rw [c12]; decide) (by rw [c12]; decide) (by rw [c12]; rfl) (by decide) ?_
          refine a_iload_n dX11_redexAt_152 rfl rfl ?_
          refine a_iconst (v := 1) dX11_redexAt_153 (by decide) ?_
          refine a_icmp_ne 161 dX11_redexAt_154 (by decide) (fun c13 => ?_) (fun c13 => ?_)
          · replace h := ite_f c13 h
            refine a_iconst (v := 0) dX11_redexAt_161 (by decide) ?_
            exact a_iret dX11_redexAt_162 rfl (hR _ _ h)
          · replace h := ite_t c13 h
            refine a_iconst (v := 1) dX11_redexAt_157 (by decide) ?_
            refine a_goto 162 dX11_redexAt_158 (by decide) ?_
            exact a_iret dX11_redexAt_162 rfl (hR _ _ h)
        replace h := ite_f c12 h
        by_cases c14 : (M.2.2.1 r6 (x1.toNatClampNeg)) = 3
        · replace h := ite_t c14 h
          refine a_tableIn (off := 96) 207 dX11_redexAt_111 (by rw [c14]; decide) (by rw [c14]; decide) (by rw [c14]; rfl) (by decide) ?_
          refine a_iconst (v := 0) dX11_redexAt_207 (by decide) ?_
          exact a_iret dX11_redexAt_208 rfl (hR _ _ h)
        replace h := ite_f c14 h
        by_cases c15 : (M.2.2.1 r6 (x1.toNatClampNeg)) = 4
        · replace h := ite_t c15 h
          refine a_tableIn (off := 52) 163 dX11_redexAt_111 (by rw [c15]; decide) (by rw [c15]; decide) (by rw [c15]; rfl) (by decide) ?_
          refine a_iload_n dX11_redexAt_163 rfl rfl ?_
          refine a_iconst (v := 3) dX11_redexAt_164 (by decide) ?_
          refine a_icmp_ne 172 dX11_redexAt_165 (by decide) (fun c16 => ?_) (fun c16 => ?_)
          · replace h := ite_f c16 h
            refine a_iconst (v := 0) dX11_redexAt_172 (by decide) ?_
            exact a_iret dX11_redexAt_173 rfl (hR _ _ h)
          · replace h := ite_t c16 h
            refine a_iconst (v := 2) dX11_redexAt_168 (by decide) ?_
            refine a_goto 173 dX11_redexAt_169 (by decide) ?_
            exact a_iret dX11_redexAt_173 rfl (hR _ _ h)
        replace h := ite_f c15 h
        by_cases c17 : (M.2.2.1 r6 (x1.toNatClampNeg)) = 5
        · replace h := ite_t c17 h
          refine a_tableIn (off := 63) 174 dX11_redexAt_111 (by rw [c17]; decide) (by rw [c17]; decide) (by rw [c17]; rfl) (by decide) ?_
          refine a_iload_n dX11_redexAt_174 rfl rfl ?_
          refine a_iconst (v := 3) dX11_redexAt_175 (by decide) ?_
          refine a_icmp_ne 183 dX11_redexAt_176 (by decide) (fun c18 => ?_) (fun c18 => ?_)
          · replace h := ite_f c18 h
            refine a_iconst (v := 0) dX11_redexAt_183 (by decide) ?_
            exact a_iret dX11_redexAt_184 rfl (hR _ _ h)
          · replace h := ite_t c18 h
            refine a_iconst (v := 3) dX11_redexAt_179 (by decide) ?_
            refine a_goto 184 dX11_redexAt_180 (by decide) ?_
            exact a_iret dX11_redexAt_184 rfl (hR _ _ h)
        replace h := ite_f c17 h
        by_cases c19 : (M.2.2.1 r6 (x1.toNatClampNeg)) = 6
        · replace h := ite_t c19 h
          refine a_tableIn (off := 96) 207 dX11_redexAt_111 (by rw [c19]; decide) (by rw [c19]; decide) (by rw [c19]; rfl) (by decide) ?_
          refine a_iconst (v := 0) dX11_redexAt_207 (by decide) ?_
          exact a_iret dX11_redexAt_208 rfl (hR _ _ h)
        replace h := ite_f c19 h
        by_cases c20 : (M.2.2.1 r6 (x1.toNatClampNeg)) = 7
        · replace h := ite_t c20 h
          refine a_tableIn (off := 96) 207 dX11_redexAt_111 (by rw [c20]; decide) (by rw [c20]; decide) (by rw [c20]; rfl) (by decide) ?_
          refine a_iconst (v := 0) dX11_redexAt_207 (by decide) ?_
          exact a_iret dX11_redexAt_208 rfl (hR _ _ h)
        replace h := ite_f c20 h
        by_cases c21 : (M.2.2.1 r6 (x1.toNatClampNeg)) = 8
        · replace h := ite_t c21 h
          refine a_tableIn (off := 74) 185 dX11_redexAt_111 (by rw [c21]; decide) (by rw [c21]; decide) (by rw [c21]; rfl) (by decide) ?_
          refine a_iload_n dX11_redexAt_185 rfl rfl ?_
          refine a_bipush (v := 6) dX11_redexAt_186 (by decide) ?_
          refine a_icmp_ne 195 dX11_redexAt_188 (by decide) (fun c22 => ?_) (fun c22 => ?_)
          · replace h := ite_f c22 h
            refine a_iload_n dX11_redexAt_195 rfl rfl ?_
            refine a_bipush (v := 7) dX11_redexAt_196 (by decide) ?_
            refine a_icmp_ne 205 dX11_redexAt_198 (by decide) (fun c23 => ?_) (fun c23 => ?_)
            · replace h := ite_f c23 h
              refine a_iconst (v := 0) dX11_redexAt_205 (by decide) ?_
              exact a_iret dX11_redexAt_206 rfl (hR _ _ h)
            · replace h := ite_t c23 h
              refine a_iconst (v := 5) dX11_redexAt_201 (by decide) ?_
              refine a_goto 206 dX11_redexAt_202 (by decide) ?_
              exact a_iret dX11_redexAt_206 rfl (hR _ _ h)
          · replace h := ite_t c22 h
            refine a_iconst (v := 4) dX11_redexAt_191 (by decide) ?_
            refine a_goto 206 dX11_redexAt_192 (by decide) ?_
            exact a_iret dX11_redexAt_206 rfl (hR _ _ h)
        replace h := ite_f c21 h
        refine a_tableOut 207 dX11_redexAt_111 (by have q0 := ne_toInt (z := 2) c12 rfl; have q1 := ne_toInt (z := 3) c14 rfl; have q2 := ne_toInt (z := 4) c15 rfl; have q3 := ne_toInt (z := 5) c17 rfl; have q4 := ne_toInt (z := 6) c19 rfl; have q5 := ne_toInt (z := 7) c20 rfl; have q6 := ne_toInt (z := 8) c21 rfl; omega) (by decide) ?_
        refine a_iconst (v := 0) dX11_redexAt_207 (by decide) ?_
        exact a_iret dX11_redexAt_208 rfl (hR _ _ h)
      · replace h := ite_t c3 h
        refine a_bipush (v := 7) dX11_redexAt_102 (by decide) ?_
        exact a_iret dX11_redexAt_104 rfl (hR _ _ h)
    · replace h := ite_t c2 h
      refine a_bipush (v := 6) dX11_redexAt_93 (by decide) ?_
      exact a_iret dX11_redexAt_95 rfl (hR _ _ h)
  · replace h := ite_t c1 h
    refine a_iconst (v := 0) dX11_redexAt_85 (by decide) ?_
    exact a_iret dX11_redexAt_86 rfl (hR _ _ h)
set_option maxHeartbeats 4000000 in
set_option maxRecDepth 100000 in
noncomputable def st_X11_redexAt (n : Nat) (s : Sg) : Option (Sg ⊕ (Int32 × Mem)) := if s.1 = 0 then vR s.2.1 none (fun a0 t => vI t none (fun x1 t => vE t none (T_X11_redexAt_0 (fun c l M => some (.inl (c, l, M))) (fun v M => some (.inr (v, M))) none n a0 x1 s.2.2))) else if s.1 = 80 then vR s.2.1 none (fun a0 t => vI t none (fun x1 t => vI t none (fun x2 t => vI t none (fun xs0 t => vE t none (T_X11_redexAt_80 (fun c l M => some (.inl (c, l, M))) (fun v M => some (.inr (v, M))) none n a0 x1 x2 xs0 s.2.2))))) else none
noncomputable abbrev g_X11_redexAt_0 (n : Nat) (a0 : Nat) (x1 : Int32) (M : Mem) : Option (Int32 × Mem) := lp (st_X11_redexAt n) (0, [.ref a0, .int x1], M)
set_option maxHeartbeats 4000000 in
set_option maxRecDepth 100000 in
theorem ge_X11_redexAt_0 (n : Nat) (a0 : Nat) (x1 : Int32) (M : Mem) : g_X11_redexAt_0 n a0 x1 M = T_X11_redexAt_0 (fun c l M => lp (st_X11_redexAt n) (c, l, M)) (fun v M => some (v, M)) none n a0 x1 M := (lp_eq _ _).trans (n_X11_redexAt_0 (lpK (st_X11_redexAt n)) (fun c l M => some (.inl (c, l, M))) (fun v M => some (.inr (v, M))) none n a0 x1 M)
noncomputable abbrev g_X11_redexAt_80 (n : Nat) (a0 : Nat) (x1 : Int32) (x2 : Int32) (xs0 : Int32) (M : Mem) : Option (Int32 × Mem) := lp (st_X11_redexAt n) (80, [.ref a0, .int x1, .int x2, .int xs0], M)
set_option maxHeartbeats 4000000 in
set_option maxRecDepth 100000 in
theorem ge_X11_redexAt_80 (n : Nat) (a0 : Nat) (x1 : Int32) (x2 : Int32) (xs0 : Int32) (M : Mem) : g_X11_redexAt_80 n a0 x1 x2 xs0 M = T_X11_redexAt_80 (fun c l M => lp (st_X11_redexAt n) (c, l, M)) (fun v M => some (v, M)) none n a0 x1 x2 xs0 M := (lp_eq _ _).trans (n_X11_redexAt_80 (lpK (st_X11_redexAt n)) (fun c l M => some (.inl (c, l, M))) (fun v M => some (.inr (v, M))) none n a0 x1 x2 xs0 M)
noncomputable def b_X11_redexAt (n : Nat) (a0 : Nat) (x1 : Int32) (M : Mem) : Option (Int32 × Mem) := g_X11_redexAt_0 n a0 x1 M
set_option maxHeartbeats 4000000 in
set_option maxRecDepth 100000 in
theorem sb_X11_redexAt {X : Nat × (Nat → Int32)} {al : Bool} {n : Nat} {a0 : Nat} {x1 : Int32} {M : Mem} {v : Int32} {M1 : Mem} (h : b_X11_redexAt n a0 x1 M = some (v, M1)) : AE yX11_redexAt cX11_redexAt 4 (some .int) al n X [.ref a0, .int x1] M (some (.int v)) M1 := by
  refine AM.of false (by decide +kernel) (by intro h; cases h) (Nat.le_of_ble_eq_true rfl) ?_
  refine lp_snd (P := fun s r => PW_X11_redexAt X al n (fun v M2 => v = (some (.int r.1)) ∧ M2 = r.2) s.1 s.2.1 s.2.2) ?_ h
  clear h
  rintro ⟨c, l, M⟩ r h
  unfold st_X11_redexAt at h
  rcases ite_p h with ⟨e, h⟩ | ⟨e, h⟩
  · replace e : c = 0 := e
    subst e
    obtain ⟨a0, tt0, e, h⟩ := vR_p id h
    replace e : l = _ := e
    subst e
    obtain ⟨x1, tt1, e, h⟩ := vI_p id h
    replace e : tt0 = _ := e
    subst e
    obtain ⟨e, h⟩ := vE_p id h
    replace e : tt1 = [] := e
    subst e
    exact w_X11_redexAt_0 (J := fun c l M => PW_X11_redexAt X al n (fun v M2 => v = (some (.int r.1)) ∧ M2 = r.2) c l M) (R := fun v M => (v, M) = r) (fun _ _ _ h => h) (fun v M h => by cases h; exact ⟨rfl, rfl⟩) ((n_X11_redexAt_0 (lpP (fun (s : Sg) (r : Int32 × Mem) => PW_X11_redexAt X al n (fun v M2 => v = (some (.int r.1)) ∧ M2 = r.2) s.1 s.2.1 s.2.2) r) (fun c l M => some (.inl (c, l, M))) (fun v M => some (.inr (v, M))) none n a0 x1 M).mp h)
  rcases ite_p h with ⟨e, h⟩ | ⟨e, h⟩
  · replace e : c = 80 := e
    subst e
    obtain ⟨a0, tt0, e, h⟩ := vR_p id h
    replace e : l = _ := e
    subst e
    obtain ⟨x1, tt1, e, h⟩ := vI_p id h
    replace e : tt0 = _ := e
    subst e
    obtain ⟨x2, tt2, e, h⟩ := vI_p id h
    replace e : tt1 = _ := e
    subst e
    obtain ⟨xs0, tt3, e, h⟩ := vI_p id h
    replace e : tt2 = _ := e
    subst e
    obtain ⟨e, h⟩ := vE_p id h
    replace e : tt3 = [] := e
    subst e
    exact w_X11_redexAt_80 (J := fun c l M => PW_X11_redexAt X al n (fun v M2 => v = (some (.int r.1)) ∧ M2 = r.2) c l M) (R := fun v M => (v, M) = r) (fun _ _ _ h => h) (fun v M h => by cases h; exact ⟨rfl, rfl⟩) ((n_X11_redexAt_80 (lpP (fun (s : Sg) (r : Int32 × Mem) => PW_X11_redexAt X al n (fun v M2 => v = (some (.int r.1)) ∧ M2 = r.2) s.1 s.2.1 s.2.2) r) (fun c l M => some (.inl (c, l, M))) (fun v M => some (.inr (v, M))) none n a0 x1 x2 xs0 M).mp h)
  · exact h.elim

noncomputable abbrev f_X11_redexAt := b_X11_redexAt
theorem s_X11_redexAt {X : Nat × (Nat → Int32)} {al : Bool} {n : Nat} {a0 : Nat} {x1 : Int32} {M : Mem} {v : Int32} {M1 : Mem} (h : f_X11_redexAt n a0 x1 M = some (v, M1)) : AE yX11_redexAt cX11_redexAt 4 (some .int) al n X [.ref a0, .int x1] M (some (.int v)) M1 := sb_X11_redexAt h
def ix_X11_firstRedex (c : Nat) : List Nat := if c = 0 then [0] else if c = 2 then [0, 1] else []
def PW_X11_firstRedex (X : Nat × (Nat → Int32)) (al : Bool) (n : Nat) (Q : Option Value → Mem → Prop) (c : Nat) (l : List Value) (M : Mem) : Prop := AW X (RX11, cX11_firstRedex, 2, (some .int), false, al, n) 0 0 c (List.zip (ix_X11_firstRedex c) l) (l.drop (ix_X11_firstRedex c).length) M Q
set_option maxHeartbeats 4000000 in
set_option maxRecDepth 100000 in
noncomputable def T_X11_firstRedex_0.{u} {α : Sort u} (J : Nat → List Value → Mem → α) (R : Int32 → Mem → α) (N : α) (n : Nat) (a0 : Nat) (M : Mem) : α := J 2 [.ref a0, .int 0] M
set_option maxHeartbeats 4000000 in
set_option maxRecDepth 100000 in
theorem n_X11_firstRedex_0.{u, v} {α : Sort u} {β : Sort v} (h : α → β) (J : Nat → List Value → Mem → α) (R : Int32 → Mem → α) (N : α) (n : Nat) (a0 : Nat) (M : Mem) : h (T_X11_firstRedex_0 J R N n a0 M) = T_X11_firstRedex_0 (fun c l M => h (J c l M)) (fun v M => h (R v M)) (h N) n a0 M := by
  simp only [T_X11_firstRedex_0, nat_ite h, nat_gd h, nat_bnd h, nat_bnd2 h]
set_option maxHeartbeats 4000000 in
set_option maxRecDepth 100000 in
theorem w_X11_firstRedex_0 {X : Nat × (Nat → Int32)} {al : Bool} {n : Nat} {Q : Option Value → Mem → Prop} {J : Nat → List Value → Mem → Prop} (hJ : ∀ c l M, J c l M → PW_X11_firstRedex X al n Q c l M) {R : Int32 → Mem → Prop} (hR : ∀ v M, R v M → Q (some (.int v)) M) {a0 : Nat} {M : Mem} (h : T_X11_firstRedex_0 J R False n a0 M) : AW X (RX11, cX11_firstRedex, 2, (some .int), false, al, n) 0 0 0 [(0, .ref a0)] [] M Q := by
  unfold T_X11_firstRedex_0 at h
  refine a_iconst (v := 0) dX11_firstRedex_0 (by decide) ?_
  refine a_istore_n dX11_firstRedex_1 rfl (Nat.le_of_ble_eq_true rfl) (lv2 := [(1, .int 0), (0, .ref a0)]) rfl ?_
  exact a_lv (lv2 := [(0, .ref a0), (1, .int 0)]) (fa_cons rfl (fa_cons rfl fa_nil)) (hJ _ _ _ h)
set_option maxHeartbeats 4000000 in
set_option maxRecDepth 100000 in
noncomputable def T_X11_firstRedex_2.{u} {α : Sort u} (J : Nat → List Value → Mem → α) (R : Int32 → Mem → α) (N : α) (n : Nat) (a0 : Nat) (x1 : Int32) (M : Mem) : α := gd (fO M a0 11) N (if (M.2.2.1 a0 24) ≤ x1 then if x1 = (M.2.2.1 a0 24) then R (-1) M else R x1 M else bnd2 (cal n (fun n => f_X11_redexAt n a0 x1 M)) N (fun v5 M6 => if v5 = 0 then J 2 [.ref a0, .int (x1 + 1)] M6 else gd (fO M6 a0 11) N (if x1 = (M6.2.2.1 a0 24) then R (-1) M6 else R x1 M6)))
set_option maxHeartbeats 4000000 in
set_option maxRecDepth 100000 in
theorem n_X11_firstRedex_2.{u, v} {α : Sort u} {β : Sort v} (h : α → β) (J : Nat → List Value → Mem → α) (R : Int32 → Mem → α) (N : α) (n : Nat) (a0 : Nat) (x1 : Int32) (M : Mem) : h (T_X11_firstRedex_2 J R N n a0 x1 M) = T_X11_firstRedex_2 (fun c l M => h (J c l M)) (fun v M => h (R v M)) (h N) n a0 x1 M := by
  simp only [T_X11_firstRedex_2, nat_ite h, nat_gd h, nat_bnd h, nat_bnd2 h]
set_option maxHeartbeats 4000000 in
set_option maxRecDepth 100000 in
theorem w_X11_firstRedex_2 {X : Nat × (Nat → Int32)} {al : Bool} {n : Nat} {Q : Option Value → Mem → Prop} {J : Nat → List Value → Mem → Prop} (hJ : ∀ c l M, J c l M → PW_X11_firstRedex X al n Q c l M) {R : Int32 → Mem → Prop} (hR : ∀ v M, R v M → Q (some (.int v)) M) {a0 : Nat} {x1 : Int32} {M : Mem} (h : T_X11_firstRedex_2 J R False n a0 x1 M) : AW X (RX11, cX11_firstRedex, 2, (some .int), false, al, n) 0 0 2 [(0, .ref a0), (1, .int x1)] [] M Q := by
  unfold T_X11_firstRedex_2 at h
  refine a_iload_n dX11_firstRedex_2 rfl rfl ?_
  refine a_aload_n dX11_firstRedex_3 rfl rfl ?_
  obtain ⟨⟨ga1, gs2⟩, h⟩ := gd_t h
  refine a_get (v := .int (M.2.2.1 a0 24)) dX11_firstRedex_4 fl_11_151 ga1 gs2 rfl ?_
  refine a_icmp_ge 24 dX11_firstRedex_7 (by decide) (fun c3 => ?_) (fun c3 => ?_)
  · replace h := ite_t c3 h
    refine a_iload_n dX11_firstRedex_24 rfl rfl ?_
    refine a_aload_n dX11_firstRedex_25 rfl rfl ?_
    refine a_get (v := .int (M.2.2.1 a0 24)) dX11_firstRedex_26 fl_11_151 ga1 gs2 rfl ?_
    refine a_icmp_ne 36 dX11_firstRedex_29 (by decide) (fun c4 => ?_) (fun c4 => ?_)
    · replace h := ite_f c4 h
      refine a_iload_n dX11_firstRedex_36 rfl rfl ?_
      exact a_iret dX11_firstRedex_37 rfl (hR _ _ h)
    · replace h := ite_t c4 h
      refine a_iconst (v := -1) dX11_firstRedex_32 (by decide) ?_
      refine a_goto 37 dX11_firstRedex_33 (by decide) ?_
      exact a_iret dX11_firstRedex_37 rfl (hR _ _ h)
  · replace h := ite_f c3 h
    refine a_aload_n dX11_firstRedex_10 rfl rfl ?_
    refine a_iload_n dX11_firstRedex_11 rfl rfl ?_
    obtain ⟨v5, M6, e7, h⟩ := bnd2_t h
    obtain ⟨n8, en9, e7⟩ := cal_t e7
    refine e_callV (As := [.int x1]) (st := []) (a := a0) (ci := 11) false dX11_firstRedex_12 mw_X11_redexAt (Or.inl ⟨rfl, ml_X11_300⟩) im_X11_redexAt se_X11_redexAt (by decide) ga1 gs2 rfl (Nat.le_of_ble_eq_true rfl) en9 (s_X11_redexAt e7) ?_
    refine a_if_ne 24 dX11_firstRedex_15 (by decide) (fun c10 => ?_) (fun c10 => ?_)
    · replace h := ite_f c10 h
      refine a_iload_n dX11_firstRedex_24 rfl rfl ?_
      refine a_aload_n dX11_firstRedex_25 rfl rfl ?_
      obtain ⟨⟨ga11, gs12⟩, h⟩ := gd_t h
      refine a_get (v := .int (M6.2.2.1 a0 24)) dX11_firstRedex_26 fl_11_151 ga11 gs12 rfl ?_
      refine a_icmp_ne 36 dX11_firstRedex_29 (by decide) (fun c13 => ?_) (fun c13 => ?_)
      · replace h := ite_f c13 h
        refine a_iload_n dX11_firstRedex_36 rfl rfl ?_
        exact a_iret dX11_firstRedex_37 rfl (hR _ _ h)
      · replace h := ite_t c13 h
        refine a_iconst (v := -1) dX11_firstRedex_32 (by decide) ?_
        refine a_goto 37 dX11_firstRedex_33 (by decide) ?_
        exact a_iret dX11_firstRedex_37 rfl (hR _ _ h)
    · replace h := ite_t c10 h
      refine a_iinc (v := (x1 + 1)) dX11_firstRedex_18 rfl (by first | rfl | decide) (Nat.le_of_ble_eq_true rfl) (lv2 := [(1, .int (x1 + 1)), (0, .ref a0)]) rfl ?_
      refine a_goto 2 dX11_firstRedex_21 (by decide) ?_
      exact a_lv (lv2 := [(0, .ref a0), (1, .int (x1 + 1))]) (fa_cons rfl (fa_cons rfl fa_nil)) (hJ _ _ _ h)
set_option maxHeartbeats 4000000 in
set_option maxRecDepth 100000 in
noncomputable def st_X11_firstRedex (n : Nat) (s : Sg) : Option (Sg ⊕ (Int32 × Mem)) := if s.1 = 0 then vR s.2.1 none (fun a0 t => vE t none (T_X11_firstRedex_0 (fun c l M => some (.inl (c, l, M))) (fun v M => some (.inr (v, M))) none n a0 s.2.2)) else if s.1 = 2 then vR s.2.1 none (fun a0 t => vI t none (fun x1 t => vE t none (T_X11_firstRedex_2 (fun c l M => some (.inl (c, l, M))) (fun v M => some (.inr (v, M))) none n a0 x1 s.2.2))) else none
noncomputable abbrev g_X11_firstRedex_0 (n : Nat) (a0 : Nat) (M : Mem) : Option (Int32 × Mem) := lp (st_X11_firstRedex n) (0, [.ref a0], M)
set_option maxHeartbeats 4000000 in
set_option maxRecDepth 100000 in
theorem ge_X11_firstRedex_0 (n : Nat) (a0 : Nat) (M : Mem) : g_X11_firstRedex_0 n a0 M = T_X11_firstRedex_0 (fun c l M => lp (st_X11_firstRedex n) (c, l, M)) (fun v M => some (v, M)) none n a0 M := (lp_eq _ _).trans (n_X11_firstRedex_0 (lpK (st_X11_firstRedex n)) (fun c l M => some (.inl (c, l, M))) (fun v M => some (.inr (v, M))) none n a0 M)
noncomputable abbrev g_X11_firstRedex_2 (n : Nat) (a0 : Nat) (x1 : Int32) (M : Mem) : Option (Int32 × Mem) := lp (st_X11_firstRedex n) (2, [.ref a0, .int x1], M)
set_option maxHeartbeats 4000000 in
set_option maxRecDepth 100000 in
theorem ge_X11_firstRedex_2 (n : Nat) (a0 : Nat) (x1 : Int32) (M : Mem) : g_X11_firstRedex_2 n a0 x1 M = T_X11_firstRedex_2 (fun c l M => lp (st_X11_firstRedex n) (c, l, M)) (fun v M => some (v, M)) none n a0 x1 M := (lp_eq _ _).trans (n_X11_firstRedex_2 (lpK (st_X11_firstRedex n)) (fun c l M => some (.inl (c, l, M))) (fun v M => some (.inr (v, M))) none n a0 x1 M)
noncomputable def b_X11_firstRedex (n : Nat) (a0 : Nat) (M : Mem) : Option (Int32 × Mem) := g_X11_firstRedex_0 n a0 M
set_option maxHeartbeats 4000000 in
set_option maxRecDepth 100000 in
theorem sb_X11_firstRedex {X : Nat × (Nat → Int32)} {al : Bool} {n : Nat} {a0 : Nat} {M : Mem} {v : Int32} {M1 : Mem} (h : b_X11_firstRedex n a0 M = some (v, M1)) : AE yX11_firstRedex cX11_firstRedex 2 (some .int) al n X [.ref a0] M (some (.int v)) M1 := by
  refine AM.of false (by decide +kernel) (by intro h; cases h) (Nat.le_of_ble_eq_true rfl) ?_
  refine lp_snd (P := fun s r => PW_X11_firstRedex X al n (fun v M2 => v = (some (.int r.1)) ∧ M2 = r.2) s.1 s.2.1 s.2.2) ?_ h
  clear h
  rintro ⟨c, l, M⟩ r h
  unfold st_X11_firstRedex at h
  rcases ite_p h with ⟨e, h⟩ | ⟨e, h⟩
  · replace e : c = 0 := e
    subst e
    obtain ⟨a0, tt0, e, h⟩ := vR_p id h
    replace e : l = _ := e
    subst e
    obtain ⟨e, h⟩ := vE_p id h
    replace e : tt0 = [] := e
    subst e
    exact w_X11_firstRedex_0 (J := fun c l M => PW_X11_firstRedex X al n (fun v M2 => v = (some (.int r.1)) ∧ M2 = r.2) c l M) (R := fun v M => (v, M) = r) (fun _ _ _ h => h) (fun v M h => by cases h; exact ⟨rfl, rfl⟩) ((n_X11_firstRedex_0 (lpP (fun (s : Sg) (r : Int32 × Mem) => PW_X11_firstRedex X al n (fun v M2 => v = (some (.int r.1)) ∧ M2 = r.2) s.1 s.2.1 s.2.2) r) (fun c l M => some (.inl (c, l, M))) (fun v M => some (.inr (v, M))) none n a0 M).mp h)
  rcases ite_p h with ⟨e, h⟩ | ⟨e, h⟩
  · replace e : c = 2 := e
    subst e
    obtain ⟨a0, tt0, e, h⟩ := vR_p id h
    replace e : l = _ := e
    subst e
    obtain ⟨x1, tt1, e, h⟩ := vI_p id h
    replace e : tt0 = _ := e
    subst e
    obtain ⟨e, h⟩ := vE_p id h
    replace e : tt1 = [] := e
    subst e
    exact w_X11_firstRedex_2 (J := fun c l M => PW_X11_firstRedex X al n (fun v M2 => v = (some (.int r.1)) ∧ M2 = r.2) c l M) (R := fun v M => (v, M) = r) (fun _ _ _ h => h) (fun v M h => by cases h; exact ⟨rfl, rfl⟩) ((n_X11_firstRedex_2 (lpP (fun (s : Sg) (r : Int32 × Mem) => PW_X11_firstRedex X al n (fun v M2 => v = (some (.int r.1)) ∧ M2 = r.2) s.1 s.2.1 s.2.2) r) (fun c l M => some (.inl (c, l, M))) (fun v M => some (.inr (v, M))) none n a0 x1 M).mp h)
  · exact h.elim

noncomputable abbrev f_X11_firstRedex := b_X11_firstRedex
theorem s_X11_firstRedex {X : Nat × (Nat → Int32)} {al : Bool} {n : Nat} {a0 : Nat} {M : Mem} {v : Int32} {M1 : Mem} (h : f_X11_firstRedex n a0 M = some (v, M1)) : AE yX11_firstRedex cX11_firstRedex 2 (some .int) al n X [.ref a0] M (some (.int v)) M1 := sb_X11_firstRedex h
def ix_X11_size (c : Nat) : List Nat := if c = 0 then [0, 1, 2] else if c = 99 then [0, 3, 4] else []
def PW_X11_size (X : Nat × (Nat → Int32)) (al : Bool) (n : Nat) (Q : Option Value → Mem → Prop) (c : Nat) (l : List Value) (M : Mem) : Prop := AW X (RX11, cX11_size, 5, (some .int), false, al, n) 0 0 c (List.zip (ix_X11_size c) l) (l.drop (ix_X11_size c).length) M Q
set_option maxHeartbeats 4000000 in
set_option maxRecDepth 100000 in
noncomputable def T_X11_size_0.{u} {α : Sort u} (J : Nat → List Value → Mem → α) (R : Int32 → Mem → α) (N : α) (n : Nat) (a0 : Nat) (x1 : Int32) (x2 : Int32) (M : Mem) : α := gd (fO M a0 11) N (bnd2 (cal n (fun n => f_X11_isSlot n x1 (wI M a0 0 0))) N (fun v3 M4 => if v3 = 0 then R (-2) M4 else bnd2 (cal n (fun n => f_X11_isIn n (Int32.toInt64 x2) 0 (6) M4)) N (fun v9 M10 => if v9 = 0 then R (-2) M10 else gd (fO M10 a0 11) N (bnd2 (cal n (fun n => f_X11_isEmpty n a0 x1 M10)) N (fun v17 M18 => if v17 = 0 then gd (fO M18 a0 11) N (bnd2 (cal n (fun n => f_X11_takes n a0 x1 M18)) N (fun _ M25 => if x2 = 0 then gd (fO M25 a0 11) N (R (M25.2.2.1 a0 24) M25) else if x2 = 1 then gd (fO M25 a0 11) N (bnd2 (cal n (fun n => f_X11_deepest n a0 M25)) N (fun v35 M36 => R v35 M36)) else if x2 = 2 then J 99 [.ref a0, .int 0, .int 0] M25 else if x2 = 3 then gd (fO M25 a0 11) N (bnd2 (cal n (fun n => f_X11_unlike n a0 0 M25)) N (fun v44 M45 => R v44 M45)) else if x2 = 4 then gd (fO M25 a0 11) N (bnd2 (cal n (fun n => f_X11_unlike n a0 1 M25)) N (fun v52 M53 => R v52 M53)) else if x2 = 5 then gd (fO M25 a0 11) N (bnd2 (cal n (fun n => f_X11_asked n a0 M25)) N (fun v60 M61 => gd (fO M61 a0 11) N (if v60 = (M61.2.2.1 a0 16) then R 1 M61 else R 0 M61))) else gd (fO M25 a0 11) N (bnd2 (cal n (fun n => f_X11_firstRedex n a0 M25)) N (fun v70 M71 => if v70 = (-1) then R 1 M71 else R 0 M71)))) else R (-5) M18)))))
set_option maxHeartbeats 4000000 in
set_option maxRecDepth 100000 in
theorem n_X11_size_0.{u, v} {α : Sort u} {β : Sort v} (h : α → β) (J : Nat → List Value → Mem → α) (R : Int32 → Mem → α) (N : α) (n : Nat) (a0 : Nat) (x1 : Int32) (x2 : Int32) (M : Mem) : h (T_X11_size_0 J R N n a0 x1 x2 M) = T_X11_size_0 (fun c l M => h (J c l M)) (fun v M => h (R v M)) (h N) n a0 x1 x2 M := by
  simp only [T_X11_size_0, nat_ite h, nat_gd h, nat_bnd h, nat_bnd2 h]
set_option maxHeartbeats 4000000 in
set_option maxRecDepth 100000 in
theorem w_X11_size_0 {X : Nat × (Nat → Int32)} {al : Bool} {n : Nat} {Q : Option Value → Mem → Prop} {J : Nat → List Value → Mem → Prop} (hJ : ∀ c l M, J c l M → PW_X11_size X al n Q c l M) {R : Int32 → Mem → Prop} (hR : ∀ v M, R v M → Q (some (.int v)) M) {a0 : Nat} {x1 : Int32} {x2 : Int32} {M : Mem} (h : T_X11_size_0 J R False n a0 x1 x2 M) : AW X (RX11, cX11_size, 5, (some .int), false, al, n) 0 0 0 [(0, .ref a0), (1, .int x1), (2, .int x2)] [] M Q := by
  unfold T_X11_size_0 at h
  refine a_aload_n dX11_size_0 rfl rfl ?_
  refine a_iconst (v := 0) dX11_size_1 (by decide) ?_
  obtain ⟨⟨ga1, gs2⟩, h⟩ := gd_t h
  refine a_putI dX11_size_2 (Or.inl ⟨fl_11_1, Or.inl rfl⟩) rfl ga1 gs2 rfl rfl ?_
  refine a_iload_n dX11_size_5 rfl rfl ?_
  obtain ⟨v3, M4, e5, h⟩ := bnd2_t h
  obtain ⟨n6, en7, e5⟩ := cal_t e5
  refine e_callS (As := [.int x1]) (st := []) false dX11_size_6 mw_X11_isSlot (Or.inl ⟨rfl, ml_X11_271⟩) sm_X11_isSlot rfl (Nat.le_of_ble_eq_true rfl) en7 (s_X11_isSlot e5) ?_
  refine a_if_eq 24 dX11_size_9 (by decide) (fun c8 => ?_) (fun c8 => ?_)
  · replace h := ite_t c8 h
    refine a_bipush (v := -2) dX11_size_24 (by decide) ?_
    exact a_iret dX11_size_26 rfl (hR _ _ h)
  · replace h := ite_f c8 h
    refine a_iload_n dX11_size_12 rfl rfl ?_
    refine a_i2l dX11_size_13 ?_
    refine a_lconst (v := 0) dX11_size_14 (by decide) ?_
    refine a_ldc2 dX11_size_15 co_X11_400 ?_
    obtain ⟨v9, M10, e11, h⟩ := bnd2_t h
    obtain ⟨n12, en13, e11⟩ := cal_t e11
    refine e_callS (As := [.long (Int32.toInt64 x2), .long 0, .long (6)]) (st := []) false dX11_size_18 mw_X11_isIn (Or.inl ⟨rfl, ml_X11_180⟩) sm_X11_isIn rfl (Nat.le_of_ble_eq_true rfl) en13 (s_X11_isIn e11) ?_
    refine a_if_ne 27 dX11_size_21 (by decide) (fun c14 => ?_) (fun c14 => ?_)
    · replace h := ite_f c14 h
      refine a_aload_n dX11_size_27 rfl rfl ?_
      refine a_iload_n dX11_size_28 rfl rfl ?_
      obtain ⟨⟨ga15, gs16⟩, h⟩ := gd_t h
      obtain ⟨v17, M18, e19, h⟩ := bnd2_t h
      obtain ⟨n20, en21, e19⟩ := cal_t e19
      refine e_callV (As := [.int x1]) (st := []) (a := a0) (ci := 11) false dX11_size_29 mw_X11_isEmpty (Or.inl ⟨rfl, ml_X11_343⟩) im_X11_isEmpty se_X11_isEmpty (by decide) ga15 gs16 rfl (Nat.le_of_ble_eq_true rfl) en21 (s_X11_isEmpty e19) ?_
      refine a_if_eq 38 dX11_size_32 (by decide) (fun c22 => ?_) (fun c22 => ?_)
      · replace h := ite_t c22 h
        refine a_aload_n dX11_size_38 rfl rfl ?_
        refine a_iload_n dX11_size_39 rfl rfl ?_
        obtain ⟨⟨ga23, gs24⟩, h⟩ := gd_t h
        obtain ⟨_, M25, e26, h⟩ := bnd2_t h
        obtain ⟨n27, en28, e26⟩ := cal_t e26
        refine e_callV (As := [.int x1]) (st := []) (a := a0) (ci := 11) false dX11_size_40 mw_X11_takes (Or.inl ⟨rfl, ml_X11_346⟩) im_X11_takes se_X11_takes (by decide) ga23 gs24 rfl (Nat.le_of_ble_eq_true rfl) en28 (s_X11_takes e26) ?_
        refine a_iload_n dX11_size_43 rfl rfl ?_
        by_cases c29 : x2 = 0
        · replace h := ite_t c29 h
          refine a_tableIn (off := 40) 84 dX11_size_44 (by rw [c29]; decide) (by rw [c29]; decide) (by rw [c29]; rfl) (by decide) ?_
          refine a_aload_n dX11_size_84 rfl rfl ?_
          obtain ⟨⟨ga30, gs31⟩, h⟩ := gd_t h
          refine a_get (v := .int (M25.2.2.1 a0 24)) dX11_size_85 fl_11_151 ga30 gs31 rfl ?_
          exact a_iret dX11_size_88 rfl (hR _ _ h)
        replace h := ite_f c29 h
        by_cases c32 : x2 = 1
        · replace h := ite_t c32 h
          refine a_tableIn (off := 45) 89 dX11_size_44 (by rw [c32]; decide) (by rw [c32]; decide) (by rw [c32]; rfl) (by decide) ?_
          refine a_aload_n dX11_size_89 rfl rfl ?_
          obtain ⟨⟨ga33, gs34⟩, h⟩ := gd_t h
          obtain ⟨v35, M36, e37, h⟩ := bnd2_t h
          obtain ⟨n38, en39, e37⟩ := cal_t e37
          refine e_callV (As := []) (st := []) (a := a0) (ci := 11) false dX11_size_90 mw_X11_deepest (Or.inl ⟨rfl, ml_X11_402⟩) im_X11_deepest se_X11_deepest (by decide) ga33 gs34 rfl (Nat.le_of_ble_eq_true rfl) en39 (s_X11_deepest e37) ?_
          exact a_iret dX11_size_93 rfl (hR _ _ h)
        replace h := ite_f c32 h
        by_cases c40 : x2 = 2
        · replace h := ite_t c40 h
          refine a_tableIn (off := 50) 94 dX11_size_44 (by rw [c40]; decide) (by rw [c40]; decide) (by rw [c40]; rfl) (by decide) ?_
          refine a_iconst (v := 0) dX11_size_94 (by decide) ?_
          refine a_istore_n dX11_size_95 rfl (Nat.le_of_ble_eq_true rfl) (lv2 := [(3, .int 0), (0, .ref a0), (1, .int x1), (2, .int x2)]) rfl ?_
          refine a_iconst (v := 0) dX11_size_96 (by decide) ?_
          refine a_istore dX11_size_97 (Nat.le_of_ble_eq_true rfl) (lv2 := [(4, .int 0), (3, .int 0), (0, .ref a0), (1, .int x1), (2, .int x2)]) rfl ?_
          exact a_lv (lv2 := [(0, .ref a0), (3, .int 0), (4, .int 0)]) (fa_cons rfl (fa_cons rfl (fa_cons rfl fa_nil))) (hJ _ _ _ h)
        replace h := ite_f c40 h
        by_cases c41 : x2 = 3
        · replace h := ite_t c41 h
          refine a_tableIn (off := 110) 154 dX11_size_44 (by rw [c41]; decide) (by rw [c41]; decide) (by rw [c41]; rfl) (by decide) ?_
          refine a_aload_n dX11_size_154 rfl rfl ?_
          refine a_iconst (v := 0) dX11_size_155 (by decide) ?_
          obtain ⟨⟨ga42, gs43⟩, h⟩ := gd_t h
          obtain ⟨v44, M45, e46, h⟩ := bnd2_t h
          obtain ⟨n47, en48, e46⟩ := cal_t e46
          refine e_callV (As := [.int 0]) (st := []) (a := a0) (ci := 11) false dX11_size_156 mw_X11_unlike (Or.inl ⟨rfl, ml_X11_405⟩) im_X11_unlike se_X11_unlike (by decide) ga42 gs43 rfl (Nat.le_of_ble_eq_true rfl) en48 (s_X11_unlike e46) ?_
          exact a_iret dX11_size_159 rfl (hR _ _ h)
        replace h := ite_f c41 h
        by_cases c49 : x2 = 4
        · replace h := ite_t c49 h
          refine a_tableIn (off := 116) 160 dX11_size_44 (by rw [c49]; decide) (by rw [c49]; decide) (by rw [c49]; rfl) (by decide) ?_
          refine a_aload_n dX11_size_160 rfl rfl ?_
          refine a_iconst (v := 1) dX11_size_161 (by decide) ?_
          obtain ⟨⟨ga50, gs51⟩, h⟩ := gd_t h
          obtain ⟨v52, M53, e54, h⟩ := bnd2_t h
          obtain ⟨n55, en56, e54⟩ := cal_t e54
          refine e_callV (As := [.int 1]) (st := []) (a := a0) (ci := 11) false dX11_size_162 mw_X11_unlike (Or.inl ⟨rfl, ml_X11_405⟩) im_X11_unlike se_X11_unlike (by decide) ga50 gs51 rfl (Nat.le_of_ble_eq_true rfl) en56 (s_X11_unlike e54) ?_
          exact a_iret dX11_size_165 rfl (hR _ _ h)
        replace h := ite_f c49 h
        by_cases c57 : x2 = 5
        · replace h := ite_t c57 h
          refine a_tableIn (off := 122) 166 dX11_size_44 (by rw [c57]; decide) (by rw [c57]; decide) (by rw [c57]; rfl) (by decide) ?_
          refine a_aload_n dX11_size_166 rfl rfl ?_
          obtain ⟨⟨ga58, gs59⟩, h⟩ := gd_t h
          obtain ⟨v60, M61, e62, h⟩ := bnd2_t h
          obtain ⟨n63, en64, e62⟩ := cal_t e62
          refine e_callV (As := []) (st := []) (a := a0) (ci := 11) false dX11_size_167 mw_X11_asked (Or.inl ⟨rfl, ml_X11_331⟩) im_X11_asked se_X11_asked (by decide) ga58 gs59 rfl (Nat.le_of_ble_eq_true rfl) en64 (s_X11_asked e62) ?_
          refine a_aload_n dX11_size_170 rfl rfl ?_
          obtain ⟨⟨ga65, gs66⟩, h⟩ := gd_t h
          refine a_get (v := .int (M61.2.2.1 a0 16)) dX11_size_171 fl_11_134 ga65 gs66 rfl ?_
          refine a_icmp_ne 181 dX11_size_174 (by decide) (fun c67 => ?_) (fun c67 => ?_)
          · replace h := ite_f c67 h
            refine a_iconst (v := 0) dX11_size_181 (by decide) ?_
            exact a_iret dX11_size_182 rfl (hR _ _ h)
          · replace h := ite_t c67 h
            refine a_iconst (v := 1) dX11_size_177 (by decide) ?_
            refine a_goto 182 dX11_size_178 (by decide) ?_
            exact a_iret dX11_size_182 rfl (hR _ _ h)
        replace h := ite_f c57 h
        refine a_tableOut 183 dX11_size_44 (by have q0 := ne_toInt (z := 0) c29 rfl; have q1 := ne_toInt (z := 1) c32 rfl; have q2 := ne_toInt (z := 2) c40 rfl; have q3 := ne_toInt (z := 3) c41 rfl; have q4 := ne_toInt (z := 4) c49 rfl; have q5 := ne_toInt (z := 5) c57 rfl; omega) (by decide) ?_
        refine a_aload_n dX11_size_183 rfl rfl ?_
        obtain ⟨⟨ga68, gs69⟩, h⟩ := gd_t h
        obtain ⟨v70, M71, e72, h⟩ := bnd2_t h
        obtain ⟨n73, en74, e72⟩ := cal_t e72
        refine e_callV (As := []) (st := []) (a := a0) (ci := 11) false dX11_size_184 mw_X11_firstRedex (Or.inl ⟨rfl, ml_X11_328⟩) im_X11_firstRedex se_X11_firstRedex (by decide) ga68 gs69 rfl (Nat.le_of_ble_eq_true rfl) en74 (s_X11_firstRedex e72) ?_
        refine a_iconst (v := -1) dX11_size_187 (by decide) ?_
        refine a_icmp_ne 195 dX11_size_188 (by decide) (fun c75 => ?_) (fun c75 => ?_)
        · replace h := ite_f c75 h
          refine a_iconst (v := 0) dX11_size_195 (by decide) ?_
          exact a_iret dX11_size_196 rfl (hR _ _ h)
        · replace h := ite_t c75 h
          refine a_iconst (v := 1) dX11_size_191 (by decide) ?_
          refine a_goto 196 dX11_size_192 (by decide) ?_
          exact a_iret dX11_size_196 rfl (hR _ _ h)
      · replace h := ite_f c22 h
        refine a_bipush (v := -5) dX11_size_35 (by decide) ?_
        exact a_iret dX11_size_37 rfl (hR _ _ h)
    · replace h := ite_t c14 h
      refine a_bipush (v := -2) dX11_size_24 (by decide) ?_
      exact a_iret dX11_size_26 rfl (hR _ _ h)
set_option maxHeartbeats 4000000 in
set_option maxRecDepth 100000 in
noncomputable def T_X11_size_99.{u} {α : Sort u} (J : Nat → List Value → Mem → α) (R : Int32 → Mem → α) (N : α) (n : Nat) (a0 : Nat) (x3 : Int32) (x4 : Int32) (M : Mem) : α := gd (fO M a0 11) N (if (M.2.2.1 a0 24) ≤ x4 then R x3 M else bnd (M.2.2.2.2 a0 20) N (fun r4 => gd (fA M r4 1 x4) N (if (M.2.2.1 r4 (x4.toNatClampNeg)) = 0 then bnd (M.2.2.2.2 a0 21) N (fun r11 => gd (fA M r11 1 x4) N (if 0 ≤ (M.2.2.1 r11 (x4.toNatClampNeg)) then J 99 [.ref a0, .int (x3 ||| 0), .int (x4 + 1)] M else J 99 [.ref a0, .int (x3 ||| ((1 : Int32) <<< (((-1) - (M.2.2.1 r11 (x4.toNatClampNeg))) &&& 31))), .int (x4 + 1)] M)) else J 99 [.ref a0, .int (x3 ||| 0), .int (x4 + 1)] M)))
set_option maxHeartbeats 4000000 in
set_option maxRecDepth 100000 in
theorem n_X11_size_99.{u, v} {α : Sort u} {β : Sort v} (h : α → β) (J : Nat → List Value → Mem → α) (R : Int32 → Mem → α) (N : α) (n : Nat) (a0 : Nat) (x3 : Int32) (x4 : Int32) (M : Mem) : h (T_X11_size_99 J R N n a0 x3 x4 M) = T_X11_size_99 (fun c l M => h (J c l M)) (fun v M => h (R v M)) (h N) n a0 x3 x4 M := by
  simp only [T_X11_size_99, nat_ite h, nat_gd h, nat_bnd h, nat_bnd2 h]
set_option maxHeartbeats 4000000 in
set_option maxRecDepth 100000 in
theorem w_X11_size_99 {X : Nat × (Nat → Int32)} {al : Bool} {n : Nat} {Q : Option Value → Mem → Prop} {J : Nat → List Value → Mem → Prop} (hJ : ∀ c l M, J c l M → PW_X11_size X al n Q c l M) {R : Int32 → Mem → Prop} (hR : ∀ v M, R v M → Q (some (.int v)) M) {a0 : Nat} {x3 : Int32} {x4 : Int32} {M : Mem} (h : T_X11_size_99 J R False n a0 x3 x4 M) : AW X (RX11, cX11_size, 5, (some .int), false, al, n) 0 0 99 [(0, .ref a0), (3, .int x3), (4, .int x4)] [] M Q := by
  unfold T_X11_size_99 at h
  refine a_iload dX11_size_99 rfl ?_
  refine a_aload_n dX11_size_101 rfl rfl ?_
  obtain ⟨⟨ga1, gs2⟩, h⟩ := gd_t h
  refine a_get (v := .int (M.2.2.1 a0 24)) dX11_size_102 fl_11_151 ga1 gs2 rfl ?_
  refine a_icmp_ge 152 dX11_size_105 (by decide) (fun c3 => ?_) (fun c3 => ?_)
  · replace h := ite_t c3 h
    refine a_iload_n dX11_size_152 rfl rfl ?_
    exact a_iret dX11_size_153 rfl (hR _ _ h)
  · replace h := ite_f c3 h
    refine a_iload_n dX11_size_108 rfl rfl ?_
    refine a_aload_n dX11_size_109 rfl rfl ?_
    obtain ⟨r4, e5, h⟩ := bnd_t h
    refine a_get (v := .ref r4) dX11_size_110 fl_11_59 ga1 gs2 (gvR e5 rfl) ?_
    refine a_iload dX11_size_113 rfl ?_
    obtain ⟨⟨ga6, gn7, gs8, gi9⟩, h⟩ := gd_t h
    refine a_iaload dX11_size_115 ga6 gs8 gi9 ?_
    refine a_if_ne 143 dX11_size_116 (by decide) (fun c10 => ?_) (fun c10 => ?_)
    · replace h := ite_f c10 h
      refine a_iconst (v := 0) dX11_size_143 (by decide) ?_
      refine a_ior dX11_size_144 ?_
      refine a_istore_n dX11_size_145 rfl (Nat.le_of_ble_eq_true rfl) (lv2 := [(3, .int (x3 ||| 0)), (0, .ref a0), (4, .int x4)]) rfl ?_
      refine a_iinc (v := (x4 + 1)) dX11_size_146 rfl (by first | rfl | decide) (Nat.le_of_ble_eq_true rfl) (lv2 := [(4, .int (x4 + 1)), (3, .int (x3 ||| 0)), (0, .ref a0)]) rfl ?_
      refine a_goto 99 dX11_size_149 (by decide) ?_
      exact a_lv (lv2 := [(0, .ref a0), (3, .int (x3 ||| 0)), (4, .int (x4 + 1))]) (fa_cons rfl (fa_cons rfl (fa_cons rfl fa_nil))) (hJ _ _ _ h)
    · replace h := ite_t c10 h
      refine a_aload_n dX11_size_119 rfl rfl ?_
      obtain ⟨r11, e12, h⟩ := bnd_t h
      refine a_get (v := .ref r11) dX11_size_120 fl_11_62 ga1 gs2 (gvR e12 rfl) ?_
      refine a_iload dX11_size_123 rfl ?_
      obtain ⟨⟨ga13, gn14, gs15, gi16⟩, h⟩ := gd_t h
      refine a_iaload dX11_size_125 ga13 gs15 gi16 ?_
      refine a_if_ge 143 dX11_size_126 (by decide) (fun c17 => ?_) (fun c17 => ?_)
      · replace h := ite_t c17 h
        refine a_iconst (v := 0) dX11_size_143 (by decide) ?_
        refine a_ior dX11_size_144 ?_
        refine a_istore_n dX11_size_145 rfl (Nat.le_of_ble_eq_true rfl) (lv2 := [(3, .int (x3 ||| 0)), (0, .ref a0), (4, .int x4)]) rfl ?_
        refine a_iinc (v := (x4 + 1)) dX11_size_146 rfl (by first | rfl | decide) (Nat.le_of_ble_eq_true rfl) (lv2 := [(4, .int (x4 + 1)), (3, .int (x3 ||| 0)), (0, .ref a0)]) rfl ?_
        refine a_goto 99 dX11_size_149 (by decide) ?_
        exact a_lv (lv2 := [(0, .ref a0), (3, .int (x3 ||| 0)), (4, .int (x4 + 1))]) (fa_cons rfl (fa_cons rfl (fa_cons rfl fa_nil))) (hJ _ _ _ h)
      · replace h := ite_f c17 h
        refine a_iconst (v := 1) dX11_size_129 (by decide) ?_
        refine a_iconst (v := -1) dX11_size_130 (by decide) ?_
        refine a_aload_n dX11_size_131 rfl rfl ?_
        refine a_get (v := .ref r11) dX11_size_132 fl_11_62 ga1 gs2 (gvR e12 rfl) ?_
        refine a_iload dX11_size_135 rfl ?_
        refine a_iaload dX11_size_137 ga13 gs15 gi16 ?_
        refine a_isub dX11_size_138 ?_
        refine a_ishl dX11_size_139 ?_
        refine a_goto 144 dX11_size_140 (by decide) ?_
        refine a_ior dX11_size_144 ?_
        refine a_istore_n dX11_size_145 rfl (Nat.le_of_ble_eq_true rfl) (lv2 := [(3, .int (x3 ||| ((1 : Int32) <<< (((-1) - (M.2.2.1 r11 (x4.toNatClampNeg))) &&& 31)))), (0, .ref a0), (4, .int x4)]) rfl ?_
        refine a_iinc (v := (x4 + 1)) dX11_size_146 rfl (by first | rfl | decide) (Nat.le_of_ble_eq_true rfl) (lv2 := [(4, .int (x4 + 1)), (3, .int (x3 ||| ((1 : Int32) <<< (((-1) - (M.2.2.1 r11 (x4.toNatClampNeg))) &&& 31)))), (0, .ref a0)]) rfl ?_
        refine a_goto 99 dX11_size_149 (by decide) ?_
        exact a_lv (lv2 := [(0, .ref a0), (3, .int (x3 ||| ((1 : Int32) <<< (((-1) - (M.2.2.1 r11 (x4.toNatClampNeg))) &&& 31)))), (4, .int (x4 + 1))]) (fa_cons rfl (fa_cons rfl (fa_cons rfl fa_nil))) (hJ _ _ _ h)
set_option maxHeartbeats 4000000 in
set_option maxRecDepth 100000 in
noncomputable def st_X11_size (n : Nat) (s : Sg) : Option (Sg ⊕ (Int32 × Mem)) := if s.1 = 0 then vR s.2.1 none (fun a0 t => vI t none (fun x1 t => vI t none (fun x2 t => vE t none (T_X11_size_0 (fun c l M => some (.inl (c, l, M))) (fun v M => some (.inr (v, M))) none n a0 x1 x2 s.2.2)))) else if s.1 = 99 then vR s.2.1 none (fun a0 t => vI t none (fun x3 t => vI t none (fun x4 t => vE t none (T_X11_size_99 (fun c l M => some (.inl (c, l, M))) (fun v M => some (.inr (v, M))) none n a0 x3 x4 s.2.2)))) else none
noncomputable abbrev g_X11_size_0 (n : Nat) (a0 : Nat) (x1 : Int32) (x2 : Int32) (M : Mem) : Option (Int32 × Mem) := lp (st_X11_size n) (0, [.ref a0, .int x1, .int x2], M)
set_option maxHeartbeats 4000000 in
set_option maxRecDepth 100000 in
theorem ge_X11_size_0 (n : Nat) (a0 : Nat) (x1 : Int32) (x2 : Int32) (M : Mem) : g_X11_size_0 n a0 x1 x2 M = T_X11_size_0 (fun c l M => lp (st_X11_size n) (c, l, M)) (fun v M => some (v, M)) none n a0 x1 x2 M := (lp_eq _ _).trans (n_X11_size_0 (lpK (st_X11_size n)) (fun c l M => some (.inl (c, l, M))) (fun v M => some (.inr (v, M))) none n a0 x1 x2 M)
noncomputable abbrev g_X11_size_99 (n : Nat) (a0 : Nat) (x3 : Int32) (x4 : Int32) (M : Mem) : Option (Int32 × Mem) := lp (st_X11_size n) (99, [.ref a0, .int x3, .int x4], M)
set_option maxHeartbeats 4000000 in
set_option maxRecDepth 100000 in
theorem ge_X11_size_99 (n : Nat) (a0 : Nat) (x3 : Int32) (x4 : Int32) (M : Mem) : g_X11_size_99 n a0 x3 x4 M = T_X11_size_99 (fun c l M => lp (st_X11_size n) (c, l, M)) (fun v M => some (v, M)) none n a0 x3 x4 M := (lp_eq _ _).trans (n_X11_size_99 (lpK (st_X11_size n)) (fun c l M => some (.inl (c, l, M))) (fun v M => some (.inr (v, M))) none n a0 x3 x4 M)
noncomputable def b_X11_size (n : Nat) (a0 : Nat) (x1 : Int32) (x2 : Int32) (M : Mem) : Option (Int32 × Mem) := g_X11_size_0 n a0 x1 x2 M
set_option maxHeartbeats 4000000 in
set_option maxRecDepth 100000 in
theorem sb_X11_size {X : Nat × (Nat → Int32)} {al : Bool} {n : Nat} {a0 : Nat} {x1 : Int32} {x2 : Int32} {M : Mem} {v : Int32} {M1 : Mem} (h : b_X11_size n a0 x1 x2 M = some (v, M1)) : AE yX11_size cX11_size 5 (some .int) al n X [.ref a0, .int x1, .int x2] M (some (.int v)) M1 := by
  refine AM.of false (by decide +kernel) (by intro h; cases h) (Nat.le_of_ble_eq_true rfl) ?_
  refine lp_snd (P := fun s r => PW_X11_size X al n (fun v M2 => v = (some (.int r.1)) ∧ M2 = r.2) s.1 s.2.1 s.2.2) ?_ h
  clear h
  rintro ⟨c, l, M⟩ r h
  unfold st_X11_size at h
  rcases ite_p h with ⟨e, h⟩ | ⟨e, h⟩
  · replace e : c = 0 := e
    subst e
    obtain ⟨a0, tt0, e, h⟩ := vR_p id h
    replace e : l = _ := e
    subst e
    obtain ⟨x1, tt1, e, h⟩ := vI_p id h
    replace e : tt0 = _ := e
    subst e
    obtain ⟨x2, tt2, e, h⟩ := vI_p id h
    replace e : tt1 = _ := e
    subst e
    obtain ⟨e, h⟩ := vE_p id h
    replace e : tt2 = [] := e
    subst e
    exact w_X11_size_0 (J := fun c l M => PW_X11_size X al n (fun v M2 => v = (some (.int r.1)) ∧ M2 = r.2) c l M) (R := fun v M => (v, M) = r) (fun _ _ _ h => h) (fun v M h => by cases h; exact ⟨rfl, rfl⟩) ((n_X11_size_0 (lpP (fun (s : Sg) (r : Int32 × Mem) => PW_X11_size X al n (fun v M2 => v = (some (.int r.1)) ∧ M2 = r.2) s.1 s.2.1 s.2.2) r) (fun c l M => some (.inl (c, l, M))) (fun v M => some (.inr (v, M))) none n a0 x1 x2 M).mp h)
  rcases ite_p h with ⟨e, h⟩ | ⟨e, h⟩
  · replace e : c = 99 := e
    subst e
    obtain ⟨a0, tt0, e, h⟩ := vR_p id h
    replace e : l = _ := e
    subst e
    obtain ⟨x3, tt1, e, h⟩ := vI_p id h
    replace e : tt0 = _ := e
    subst e
    obtain ⟨x4, tt2, e, h⟩ := vI_p id h
    replace e : tt1 = _ := e
    subst e
    obtain ⟨e, h⟩ := vE_p id h
    replace e : tt2 = [] := e
    subst e
    exact w_X11_size_99 (J := fun c l M => PW_X11_size X al n (fun v M2 => v = (some (.int r.1)) ∧ M2 = r.2) c l M) (R := fun v M => (v, M) = r) (fun _ _ _ h => h) (fun v M h => by cases h; exact ⟨rfl, rfl⟩) ((n_X11_size_99 (lpP (fun (s : Sg) (r : Int32 × Mem) => PW_X11_size X al n (fun v M2 => v = (some (.int r.1)) ∧ M2 = r.2) s.1 s.2.1 s.2.2) r) (fun c l M => some (.inl (c, l, M))) (fun v M => some (.inr (v, M))) none n a0 x3 x4 M).mp h)
  · exact h.elim

noncomputable abbrev f_X11_size := b_X11_size
theorem s_X11_size {X : Nat × (Nat → Int32)} {al : Bool} {n : Nat} {a0 : Nat} {x1 : Int32} {x2 : Int32} {M : Mem} {v : Int32} {M1 : Mem} (h : f_X11_size n a0 x1 x2 M = some (v, M1)) : AE yX11_size cX11_size 5 (some .int) al n X [.ref a0, .int x1, .int x2] M (some (.int v)) M1 := sb_X11_size h
set_option maxHeartbeats 4000000 in
set_option maxRecDepth 100000 in
noncomputable def T_X10_redexes_0.{u} {α : Sort u} (R : Int32 → Mem → α) (N : α) (n : Nat) (a0 : Nat) (x1 : Int32) (x2 : Int32) (M : Mem) : α := bnd2 (cal n (fun n => f_X10_noSlot n x1 M)) N (fun v1 M2 => if v1 = 0 then if x2 < 0 then R (-2) M2 else if x2 ≤ 7 then gd (fO M2 a0 10) N (bnd (M2.2.2.2.2 a0 5) N (fun r11 => gd (fA M2 r11 4 x1) N (bnd (M2.2.2.2.2 r11 (x1.toNatClampNeg)) N (fun r17 => gd (fO M2 r17 9) N (if (M2.2.2.1 r17 2) = 0 then R (-5) M2 else bnd (M2.2.2.2.2 r11 (x1.toNatClampNeg)) N (fun r22 => gd (fO M2 r22 9) N (bnd2 (cal n (fun n => f_X9_redexesOf n r22 x2 M2)) N (fun v26 M27 => R v26 M27)))))))) else R (-2) M2 else R (-2) M2)
set_option maxHeartbeats 4000000 in
set_option maxRecDepth 100000 in
theorem n_X10_redexes_0.{u, v} {α : Sort u} {β : Sort v} (h : α → β) (R : Int32 → Mem → α) (N : α) (n : Nat) (a0 : Nat) (x1 : Int32) (x2 : Int32) (M : Mem) : h (T_X10_redexes_0 R N n a0 x1 x2 M) = T_X10_redexes_0 (fun v M => h (R v M)) (h N) n a0 x1 x2 M := by
  simp only [T_X10_redexes_0, nat_ite h, nat_gd h, nat_bnd h, nat_bnd2 h]
set_option maxHeartbeats 4000000 in
set_option maxRecDepth 100000 in
theorem w_X10_redexes_0 {X : Nat × (Nat → Int32)} {al : Bool} {n : Nat} {Q : Option Value → Mem → Prop} {R : Int32 → Mem → Prop} (hR : ∀ v M, R v M → Q (some (.int v)) M) {a0 : Nat} {x1 : Int32} {x2 : Int32} {M : Mem} (h : T_X10_redexes_0 R False n a0 x1 x2 M) : AW X (RX10, cX10_redexes, 3, (some .int), false, al, n) 0 0 0 [(0, .ref a0), (1, .int x1), (2, .int x2)] [] M Q := by
  unfold T_X10_redexes_0 at h
  refine a_iload_n dX10_redexes_0 rfl rfl ?_
  obtain ⟨v1, M2, e3, h⟩ := bnd2_t h
  obtain ⟨n4, en5, e3⟩ := cal_t e3
  refine e_callS (As := [.int x1]) (st := []) false dX10_redexes_1 mw_X10_noSlot (Or.inl ⟨rfl, ml_X10_151⟩) sm_X10_noSlot rfl (Nat.le_of_ble_eq_true rfl) en5 (s_X10_noSlot e3) ?_
  refine a_if_ne 17 dX10_redexes_4 (by decide) (fun c6 => ?_) (fun c6 => ?_)
  · replace h := ite_f c6 h
    refine a_bipush (v := -2) dX10_redexes_17 (by decide) ?_
    exact a_iret dX10_redexes_19 rfl (hR _ _ h)
  · replace h := ite_t c6 h
    refine a_iload_n dX10_redexes_7 rfl rfl ?_
    refine a_if_lt 17 dX10_redexes_8 (by decide) (fun c7 => ?_) (fun c7 => ?_)
    · replace h := ite_t c7 h
      refine a_bipush (v := -2) dX10_redexes_17 (by decide) ?_
      exact a_iret dX10_redexes_19 rfl (hR _ _ h)
    · replace h := ite_f c7 h
      refine a_iload_n dX10_redexes_11 rfl rfl ?_
      refine a_bipush (v := 7) dX10_redexes_12 (by decide) ?_
      refine a_icmp_le 20 dX10_redexes_14 (by decide) (fun c8 => ?_) (fun c8 => ?_)
      · replace h := ite_t c8 h
        refine a_aload_n dX10_redexes_20 rfl rfl ?_
        obtain ⟨⟨ga9, gs10⟩, h⟩ := gd_t h
        obtain ⟨r11, e12, h⟩ := bnd_t h
        refine a_get (v := .ref r11) dX10_redexes_21 fl_10_38 ga9 gs10 (gvR e12 rfl) ?_
        refine a_iload_n dX10_redexes_24 rfl rfl ?_
        obtain ⟨⟨ga13, gn14, gs15, gi16⟩, h⟩ := gd_t h
        obtain ⟨r17, e18, h⟩ := bnd_t h
        refine a_aaload dX10_redexes_25 ga13 gs15 gi16 e18 ?_
        obtain ⟨⟨ga19, gs20⟩, h⟩ := gd_t h
        refine a_getN (v := .int (M2.2.2.1 r17 2)) dX10_redexes_26 fn_10_171 ga19 gs20 rfl ?_
        refine a_if_ne 35 dX10_redexes_29 (by decide) (fun c21 => ?_) (fun c21 => ?_)
        · replace h := ite_f c21 h
          refine a_aload_n dX10_redexes_35 rfl rfl ?_
          refine a_get (v := .ref r11) dX10_redexes_36 fl_10_38 ga9 gs10 (gvR e12 rfl) ?_
          refine a_iload_n dX10_redexes_39 rfl rfl ?_
          obtain ⟨r22, e23, h⟩ := bnd_t h
          refine a_aaload dX10_redexes_40 ga13 gs15 gi16 e23 ?_
          refine a_iload_n dX10_redexes_41 rfl rfl ?_
          obtain ⟨⟨ga24, gs25⟩, h⟩ := gd_t h
          obtain ⟨v26, M27, e28, h⟩ := bnd2_t h
          obtain ⟨n29, en30, e28⟩ := cal_t e28
          refine e_callV (As := [.int x2]) (st := []) (a := r22) (ci := 9) false dX10_redexes_42 mw_X9_redexesOf (Or.inl ⟨rfl, ml_X10_236⟩) im_X9_redexesOf se_X9_redexesOf (by decide) ga24 gs25 rfl (Nat.le_of_ble_eq_true rfl) en30 (s_X9_redexesOf e28) ?_
          exact a_iret dX10_redexes_45 rfl (hR _ _ h)
        · replace h := ite_t c21 h
          refine a_bipush (v := -5) dX10_redexes_32 (by decide) ?_
          exact a_iret dX10_redexes_34 rfl (hR _ _ h)
      · replace h := ite_f c8 h
        refine a_bipush (v := -2) dX10_redexes_17 (by decide) ?_
        exact a_iret dX10_redexes_19 rfl (hR _ _ h)
noncomputable def b_X10_redexes (n : Nat) (a0 : Nat) (x1 : Int32) (x2 : Int32) (M : Mem) : Option (Int32 × Mem) := T_X10_redexes_0 (fun v M => some (v, M)) none n a0 x1 x2 M
set_option maxHeartbeats 4000000 in
set_option maxRecDepth 100000 in
theorem sb_X10_redexes {X : Nat × (Nat → Int32)} {al : Bool} {n : Nat} {a0 : Nat} {x1 : Int32} {x2 : Int32} {M : Mem} {v : Int32} {M1 : Mem} (h : b_X10_redexes n a0 x1 x2 M = some (v, M1)) : AE yX10_redexes cX10_redexes 3 (some .int) al n X [.ref a0, .int x1, .int x2] M (some (.int v)) M1 := by
  refine AM.of false (by decide +kernel) (by intro h; cases h) (Nat.le_of_ble_eq_true rfl) ?_
  have h2 : T_X10_redexes_0 (fun v2 M2 => some (v2, M2) = some (v, M1)) (none = some (v, M1)) n a0 x1 x2 M := (n_X10_redexes_0 (fun o => o = some (v, M1)) (fun v M => some (v, M)) none n a0 x1 x2 M).mp h
  have h3 : ((none : Option (Int32 × Mem)) = some (v, M1)) = False := eq_false (by intro q; cases q)
  rw [h3] at h2
  exact w_X10_redexes_0 (fun v2 M2 h => by cases h; exact ⟨rfl, rfl⟩) h2

noncomputable abbrev f_X10_redexes := b_X10_redexes
theorem s_X10_redexes {X : Nat × (Nat → Int32)} {al : Bool} {n : Nat} {a0 : Nat} {x1 : Int32} {x2 : Int32} {M : Mem} {v : Int32} {M1 : Mem} (h : f_X10_redexes n a0 x1 x2 M = some (v, M1)) : AE yX10_redexes cX10_redexes 3 (some .int) al n X [.ref a0, .int x1, .int x2] M (some (.int v)) M1 := sb_X10_redexes h
