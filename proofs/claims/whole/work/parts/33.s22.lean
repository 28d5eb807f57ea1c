/-! METHODS AS FUNCTIONS, written by wip/gen/shallow.py -/
set_option maxHeartbeats 4000000 in
set_option maxRecDepth 100000 in
noncomputable def T_X10_size_0.{u} {α : Sort u} (R : Int32 → Mem → α) (N : α) (n : Nat) (a0 : Nat) (x1 : Int32) (x2 : Int32) (M : Mem) : α := bnd2 (cal n (fun n => f_X10_noSlot n x1 M)) N (fun v1 M2 => if v1 = 0 then if x2 < 0 then R (-2) M2 else if x2 ≤ 6 then gd (fO M2 a0 10) N (bnd (M2.2.2.2.2 a0 5) N (fun r11 => gd (fA M2 r11 4 x1) N (bnd (M2.2.2.2.2 r11 (x1.toNatClampNeg)) N (fun r17 => gd (fO M2 r17 9) N (if (M2.2.2.1 r17 2) = 0 then R (-5) M2 else bnd (M2.2.2.2.2 a0 7) N (fun r22 => gd (fO M2 r22 3) N (bnd2 (cal n (fun n => f_X3_arrange n r22 r17 M2)) N (fun _ M26 => if x2 = 0 then gd (fO M26 r17 9) N (R (M26.2.2.1 r17 2) M26) else if x2 = 1 then gd (fO M26 a0 10) N (bnd (M26.2.2.2.2 a0 7) N (fun r36 => gd (fO M26 r36 3) N (bnd2 (cal n (fun n => f_X3_height n r36 M26)) N (fun v40 M41 => R v40 M41)))) else if x2 = 2 then gd (fO M26 r17 9) N (bnd2 (cal n (fun n => f_X9_hypothesesUsed n r17 M26)) N (fun v48 M49 => R v48 M49)) else if x2 = 3 then gd (fO M26 a0 10) N (bnd (M26.2.2.2.2 a0 7) N (fun r56 => gd (fO M26 r56 3) N (bnd2 (cal n (fun n => f_X3_ask n r56 M26)) N (fun v60 M61 => gd (fO M61 a0 10) N (bnd2 (cal n (fun n => f_X10_sizeByFormulas n a0 x2 M61)) N (fun v67 M68 => R v67 M68)))))) else if x2 = 4 then gd (fO M26 a0 10) N (bnd (M26.2.2.2.2 a0 7) N (fun r75 => gd (fO M26 r75 3) N (bnd2 (cal n (fun n => f_X3_ask n r75 M26)) N (fun v79 M80 => gd (fO M80 a0 10) N (bnd2 (cal n (fun n => f_X10_sizeByFormulas n a0 x2 M80)) N (fun v86 M87 => R v86 M87)))))) else if x2 = 5 then gd (fO M26 a0 10) N (bnd (M26.2.2.2.2 a0 7) N (fun r94 => gd (fO M26 r94 3) N (bnd2 (cal n (fun n => f_X3_ask n r94 M26)) N (fun v98 M99 => gd (fO M99 a0 10) N (bnd2 (cal n (fun n => f_X10_sizeByFormulas n a0 x2 M99)) N (fun v105 M106 => R v105 M106)))))) else if x2 = 6 then gd (fO M26 r17 9) N (bnd2 (cal n (fun n => f_X9_redexesOf n r17 0 M26)) N (fun v113 M114 => if v113 = 0 then R 1 M114 else R 0 M114)) else gd (fO M26 a0 10) N (bnd (M26.2.2.2.2 a0 7) N (fun r121 => gd (fO M26 r121 3) N (bnd2 (cal n (fun n => f_X3_ask n r121 M26)) N (fun v125 M126 => gd (fO M126 a0 10) N (bnd2 (cal n (fun n => f_X10_sizeByFormulas n a0 x2 M126)) N (fun v132 M133 => R v132 M133)))))))))))))) else R (-2) M2 else R (-2) M2)
set_option maxHeartbeats 4000000 in
set_option maxRecDepth 100000 in
theorem n_X10_size_0.{u, v} {α : Sort u} {β : Sort v} (h : α → β) (R : Int32 → Mem → α) (N : α) (n : Nat) (a0 : Nat) (x1 : Int32) (x2 : Int32) (M : Mem) : h (T_X10_size_0 R N n a0 x1 x2 M) = T_X10_size_0 (fun v M => h (R v M)) (h N) n a0 x1 x2 M := by
  simp only [T_X10_size_0, nat_ite h, nat_gd h, nat_bnd h, nat_bnd2 h]
set_option maxHeartbeats 4000000 in
set_option maxRecDepth 100000 in
theorem w_X10_size_0 {X : Nat × (Nat → Int32)} {al : Bool} {n : Nat} {Q : Option Value → Mem → Prop} {R : Int32 → Mem → Prop} (hR : ∀ v M, R v M → Q (some (.int v)) M) {a0 : Nat} {x1 : Int32} {x2 : Int32} {M : Mem} (h : T_X10_size_0 R False n a0 x1 x2 M) : AW X (RX10, cX10_size, 4, (some .int), false, al, n) 0 0 0 [(0, .ref a0), (1, .int x1), (2, .int x2)] [] M Q := by
  unfold T_X10_size_0 at h
  refine a_iload_n dX10_size_0 rfl rfl ?_
  obtain ⟨v1, M2, e3, h⟩ := bnd2_t h
  obtain ⟨n4, en5, e3⟩ := cal_t e3
  refine e_callS (As := [.int x1]) (st := []) false dX10_size_1 mw_X10_noSlot (Or.inl ⟨rfl, ml_X10_151⟩) sm_X10_noSlot rfl (Nat.le_of_ble_eq_true rfl) en5 (s_X10_noSlot e3) ?_
  refine a_if_ne 17 dX10_size_4 (by decide) (fun c6 => ?_) (fun c6 => ?_)
  · replace h := ite_f c6 h
    refine a_bipush (v := -2) dX10_size_17 (by decide) ?_
    exact a_iret dX10_size_19 rfl (hR _ _ h)
  · replace h := ite_t c6 h
    refine a_iload_n dX10_size_7 rfl rfl ?_
    refine a_if_lt 17 dX10_size_8 (by decide) (fun c7 => ?_) (fun c7 => ?_)
    · replace h := ite_t c7 h
      refine a_bipush (v := -2) dX10_size_17 (by decide) ?_
      exact a_iret dX10_size_19 rfl (hR _ _ h)
    · replace h := ite_f c7 h
      refine a_iload_n dX10_size_11 rfl rfl ?_
      refine a_bipush (v := 6) dX10_size_12 (by decide) ?_
      refine a_icmp_le 20 dX10_size_14 (by decide) (fun c8 => ?_) (fun c8 => ?_)
      · replace h := ite_t c8 h
        refine a_aload_n dX10_size_20 rfl rfl ?_
        obtain ⟨⟨ga9, gs10⟩, h⟩ := gd_t h
        obtain ⟨r11, e12, h⟩ := bnd_t h
        refine a_get (v := .ref r11) dX10_size_21 fl_10_38 ga9 gs10 (gvR e12 rfl) ?_
        refine a_iload_n dX10_size_24 rfl rfl ?_
        obtain ⟨⟨ga13, gn14, gs15, gi16⟩, h⟩ := gd_t h
        obtain ⟨r17, e18, h⟩ := bnd_t h
        refine a_aaload dX10_size_25 ga13 gs15 gi16 e18 ?_
        refine a_astore_n dX10_size_26 rfl (Nat.le_of_ble_eq_true rfl) (lv2 := [(3, .ref r17), (0, .ref a0), (1, .int x1), (2, .int x2)]) rfl ?_
        refine a_aload_n dX10_size_27 rfl rfl ?_
        obtain ⟨⟨ga19, gs20⟩, h⟩ := gd_t h
        refine a_getN (v := .int (M2.2.2.1 r17 2)) dX10_size_28 fn_10_171 ga19 gs20 rfl ?_
        refine a_if_ne 37 dX10_size_31 (by decide) (fun c21 => ?_) (fun c21 => ?_)
        · replace h := ite_f c21 h
          refine a_aload_n dX10_size_37 rfl rfl ?_
          obtain ⟨r22, e23, h⟩ := bnd_t h
          refine a_get (v := .ref r22) dX10_size_38 fl_10_52 ga9 gs10 (gvR e23 rfl) ?_
          refine a_aload_n dX10_size_41 rfl rfl ?_
          obtain ⟨⟨ga24, gs25⟩, h⟩ := gd_t h
          obtain ⟨_, M26, e27, h⟩ := bnd2_t h
          obtain ⟨n28, en29, e27⟩ := cal_t e27
          refine e_callV (As := [.ref r17]) (st := []) (a := r22) (ci := 3) false dX10_size_42 mw_X3_arrange (Or.inl ⟨rfl, ml_X10_158⟩) im_X3_arrange se_X3_arrange (by decide) ga24 gs25 rfl (Nat.le_of_ble_eq_true rfl) en29 (s_X3_arrange e27) ?_
          refine a_iload_n dX10_size_45 rfl rfl ?_
          by_cases c30 : x2 = 0
          · replace h := ite_t c30 h
            refine a_tableIn (off := 42) 88 dX10_size_46 (by rw [c30]; decide) (by rw [c30]; decide) (by rw [c30]; rfl) (by decide) ?_
            refine a_aload_n dX10_size_88 rfl rfl ?_
            obtain ⟨⟨ga31, gs32⟩, h⟩ := gd_t h
            refine a_getN (v := .int (M26.2.2.1 r17 2)) dX10_size_89 fn_10_171 ga31 gs32 rfl ?_
            exact a_iret dX10_size_92 rfl (hR _ _ h)
          replace h := ite_f c30 h
          by_cases c33 : x2 = 1
          · replace h := ite_t c33 h
            refine a_tableIn (off := 47) 93 dX10_size_46 (by rw [c33]; decide) (by rw [c33]; decide) (by rw [c33]; rfl) (by decide) ?_
            refine a_aload_n dX10_size_93 rfl rfl ?_
            obtain ⟨⟨ga34, gs35⟩, h⟩ := gd_t h
            obtain ⟨r36, e37, h⟩ := bnd_t h
            refine a_get (v := .ref r36) dX10_size_94 fl_10_52 ga34 gs35 (gvR e37 rfl) ?_
            obtain ⟨⟨ga38, gs39⟩, h⟩ := gd_t h
            obtain ⟨v40, M41, e42, h⟩ := bnd2_t h
            obtain ⟨n43, en44, e42⟩ := cal_t e42
            refine e_callV (As := []) (st := []) (a := r36) (ci := 3) false dX10_size_97 mw_X3_height (Or.inl ⟨rfl, ml_X10_230⟩) im_X3_height se_X3_height (by decide) ga38 gs39 rfl (Nat.le_of_ble_eq_true rfl) en44 (s_X3_height e42) ?_
            exact a_iret dX10_size_100 rfl (hR _ _ h)
          replace h := ite_f c33 h
          by_cases c45 : x2 = 2
          · replace h := ite_t c45 h
            refine a_tableIn (off := 55) 101 dX10_size_46 (by rw [c45]; decide) (by rw [c45]; decide) (by rw [c45]; rfl) (by decide) ?_
            refine a_aload_n dX10_size_101 rfl rfl ?_
            obtain ⟨⟨ga46, gs47⟩, h⟩ := gd_t h
            obtain ⟨v48, M49, e50, h⟩ := bnd2_t h
            obtain ⟨n51, en52, e50⟩ := cal_t e50
            refine e_callV (As := []) (st := []) (a := r17) (ci := 9) false dX10_size_102 mw_X9_hypothesesUsed (Or.inl ⟨rfl, ml_X10_233⟩) im_X9_hypothesesUsed se_X9_hypothesesUsed (by decide) ga46 gs47 rfl (Nat.le_of_ble_eq_true rfl) en52 (s_X9_hypothesesUsed e50) ?_
            exact a_iret dX10_size_105 rfl (hR _ _ h)
          replace h := ite_f c45 h
          by_cases c53 : x2 = 3
          · replace h := ite_t c53 h
            refine a_tableIn (off := 74) 120 dX10_size_46 (by rw [c53]; decide) (by rw [c53]; decide) (by rw [c53]; rfl) (by decide) ?_
            refine a_aload_n dX10_size_120 rfl rfl ?_
            obtain ⟨⟨ga54, gs55⟩, h⟩ := gd_t h
            obtain ⟨r56, e57, h⟩ := bnd_t h
            refine a_get (v := .ref r56) dX10_size_121 fl_10_52 ga54 gs55 (gvR e57 rfl) ?_
            obtain ⟨⟨ga58, gs59⟩, h⟩ := gd_t h
            obtain ⟨v60, M61, e62, h⟩ := bnd2_t h
            obtain ⟨n63, en64, e62⟩ := cal_t e62
            refine e_callV (As := []) (st := []) (a := r56) (ci := 3) false dX10_size_124 mw_X3_ask (Or.inl ⟨rfl, ml_X10_162⟩) im_X3_ask se_X3_ask (by decide) ga58 gs59 rfl (Nat.le_of_ble_eq_true rfl) en64 (s_X3_ask e62) ?_
            refine a_pop dX10_size_127 rfl ?_
            refine a_aload_n dX10_size_128 rfl rfl ?_
            refine a_iload_n dX10_size_129 rfl rfl ?_
            obtain ⟨⟨ga65, gs66⟩, h⟩ := gd_t h
            obtain ⟨v67, M68, e69, h⟩ := bnd2_t h
            obtain ⟨n70, en71, e69⟩ := cal_t e69
            refine e_callV (As := [.int x2]) (st := []) (a := a0) (ci := 10) false dX10_size_130 mw_X10_sizeByFormulas (Or.inl ⟨rfl, ml_X10_239⟩) im_X10_sizeByFormulas se_X10_sizeByFormulas (by decide) ga65 gs66 rfl (Nat.le_of_ble_eq_true rfl) en71 (s_X10_sizeByFormulas e69) ?_
            exact a_iret dX10_size_133 rfl (hR _ _ h)
          replace h := ite_f c53 h
          by_cases c72 : x2 = 4
          · replace h := ite_t c72 h
            refine a_tableIn (off := 74) 120 dX10_size_46 (by rw [c72]; decide) (by rw [c72]; decide) (by rw [c72]; rfl) (by decide) ?_
            refine a_aload_n dX10_size_120 rfl rfl ?_
            obtain ⟨⟨ga73, gs74⟩, h⟩ := gd_t h
            obtain ⟨r75, e76, h⟩ := bnd_t h
            refine a_get (v := .ref r75) dX10_size_121 fl_10_52 ga73 gs74 (gvR e76 rfl) ?_
            obtain ⟨⟨ga77, gs78⟩, h⟩ := gd_t h
            obtain ⟨v79, M80, e81, h⟩ := bnd2_t h
            obtain ⟨n82, en83, e81⟩ := cal_t e81
            refine e_callV (As := []) (st := []) (a := r75) (ci := 3) false dX10_size_124 mw_X3_ask (Or.inl ⟨rfl, ml_X10_162⟩) im_X3_ask se_X3_ask (by decide) ga77 gs78 rfl (Nat.le_of_ble_eq_true rfl) en83 (s_X3_ask e81) ?_
            refine a_pop dX10_size_127 rfl ?_
            refine a_aload_n dX10_size_128 rfl rfl ?_
            refine a_iload_n dX10_size_129 rfl rfl ?_
            obtain ⟨⟨ga84, gs85⟩, h⟩ := gd_t h
            obtain ⟨v86, M87, e88, h⟩ := bnd2_t h
            obtain ⟨n89, en90, e88⟩ := cal_t e88
            refine e_callV (As := [.int x2]) (st := []) (a := a0) (ci := 10) false dX10_size_130 mw_X10_sizeByFormulas (Or.inl ⟨rfl, ml_X10_239⟩) im_X10_sizeByFormulas se_X10_sizeByFormulas (by decide) ga84 gs85 rfl (Nat.le_of_ble_eq_true rfl) en90 (s_X10_sizeByFormulas e88) ?_
            exact a_iret dX10_size_133 rfl (hR _ _ h)
          replace h := ite_f c72 h
          by_cases c91 : x2 = 5
          · replace h := ite_t c91 h
            refine a_tableIn (off := 74) 120 dX10_size_46 (by rw [c91]; decide) (by rw [c91]; decide) (by rw [c91]; rfl) (by decide) ?_
            refine a_aload_n dX10_size_120 rfl rfl ?_
            obtain ⟨⟨ga92, gs93⟩, h⟩ := gd_t h
            obtain ⟨r94, e95, h⟩ := bnd_t h
            refine a_get (v := .ref r94) dX10_size_121 fl_10_52 ga92 gs93 (gvR e95 rfl) ?_
            obtain ⟨⟨ga96, gs97⟩, h⟩ := gd_t h
            obtain ⟨v98, M99, e100, h⟩ := bnd2_t h
            obtain ⟨n101, en102, e100⟩ := cal_t e100
            refine e_callV (As := []) (st := []) (a := r94) (ci := 3) false dX10_size_124 mw_X3_ask (Or.inl ⟨rfl, ml_X10_162⟩) im_X3_ask se_X3_ask (by decide) ga96 gs97 rfl (Nat.le_of_ble_eq_true rfl) en102 (s_X3_ask e100) ?_
            refine a_pop dX10_size_127 rfl ?_
            refine a_aload_n dX10_size_128 rfl rfl ?_
            refine a_iload_n dX10_size_129 rfl rfl ?_
            obtain ⟨⟨ga103, gs104⟩, h⟩ := gd_t h
            obtain ⟨v105, M106, e107, h⟩ := bnd2_t h
            obtain ⟨n108, en109, e107⟩ := cal_t e107
            refine e_callV (As := [.int x2]) (st := []) (a := a0) (ci := 10) false dX10_size_130 mw_X10_sizeByFormulas (Or.inl ⟨rfl, ml_X10_239⟩) im_X10_sizeByFormulas se_X10_sizeByFormulas (by decide) ga103 gs104 rfl (Nat.le_of_ble_eq_true rfl) en109 (s_X10_sizeByFormulas e107) ?_
            exact a_iret dX10_size_133 rfl (hR _ _ h)
          replace h := ite_f c91 h
          by_cases c110 : x2 = 6
          · replace h := ite_t c110 h
            refine a_tableIn (off := 60) 106 dX10_size_46 (by rw [c110]; decide) (by rw [c110]; decide) (by rw [c110]; rfl) (by decide) ?_
            refine a_aload_n dX10_size_106 rfl rfl ?_
            refine a_iconst (v := 0) dX10_size_107 (by decide) ?_
            obtain ⟨⟨ga111, gs112⟩, h⟩ := gd_t h
            obtain ⟨v113, M114, e115, h⟩ := bnd2_t h
            obtain ⟨n116, en117, e115⟩ := cal_t e115
            refine e_callV (As := [.int 0]) (st := []) (a := r17) (ci := 9) false dX10_size_108 mw_X9_redexesOf (Or.inl ⟨rfl, ml_X10_236⟩) im_X9_redexesOf se_X9_redexesOf (by decide) ga111 gs112 rfl (Nat.le_of_ble_eq_true rfl) en117 (s_X9_redexesOf e115) ?_
            refine a_if_ne 118 dX10_size_111 (by decide) (fun c118 => ?_) (fun c118 => ?_)
            · replace h := ite_f c118 h
              refine a_iconst (v := 0) dX10_size_118 (by decide) ?_
              exact a_iret dX10_size_119 rfl (hR _ _ h)
            · replace h := ite_t c118 h
              refine a_iconst (v := 1) dX10_size_114 (by decide) ?_
              refine a_goto 119 dX10_size_115 (by decide) ?_
              exact a_iret dX10_size_119 rfl (hR _ _ h)
          replace h := ite_f c110 h
          refine a_tableOut 120 dX10_size_46 (by have q0 := ne_toInt (z := 0) c30 rfl; have q1 := ne_toInt (z := 1) c33 rfl; have q2 := ne_toInt (z := 2) c45 rfl; have q3 := ne_toInt (z := 3) c53 rfl; have q4 := ne_toInt (z := 4) c72 rfl; have q5 := ne_toInt (z := 5) c91 rfl; have q6 := ne_toInt (z := 6) c110 rfl; omega) (by decide) ?_
          refine a_aload_n dX10_size_120 rfl rfl ?_
          obtain ⟨⟨ga119, gs120⟩, h⟩ := gd_t h
          obtain ⟨r121, e122, h⟩ := bnd_t h
          refine a_get (v := .ref r121) dX10_size_121 fl_10_52 ga119 gs120 (gvR e122 rfl) ?_
          obtain ⟨⟨ga123, gs124⟩, h⟩ := gd_t h
          obtain ⟨v125, M126, e127, h⟩ := bnd2_t h
          obtain ⟨n128, en129, e127⟩ := cal_t e127
          refine e_callV (As := []) (st := []) (a := r121) (ci := 3) false dX10_size_124 mw_X3_ask (Or.inl ⟨rfl, ml_X10_162⟩) im_X3_ask se_X3_ask (by decide) ga123 gs124 rfl (Nat.le_of_ble_eq_true rfl) en129 (s_X3_ask e127) ?_
          refine a_pop dX10_size_127 rfl ?_
          refine a_aload_n dX10_size_128 rfl rfl ?_
          refine a_iload_n dX10_size_129 rfl rfl ?_
          obtain ⟨⟨ga130, gs131⟩, h⟩ := gd_t h
          obtain ⟨v132, M133, e134, h⟩ := bnd2_t h
          obtain ⟨n135, en136, e134⟩ := cal_t e134
          refine e_callV (As := [.int x2]) (st := []) (a := a0) (ci := 10) false dX10_size_130 mw_X10_sizeByFormulas (Or.inl ⟨rfl, ml_X10_239⟩) im_X10_sizeByFormulas se_X10_sizeByFormulas (by decide) ga130 gs131 rfl (Nat.le_of_ble_eq_true rfl) en136 (s_X10_sizeByFormulas e134) ?_
          exact a_iret dX10_size_133 rfl (hR _ _ h)
        · replace h := ite_t c21 h
          refine a_bipush (v := -5) dX10_size_34 (by decide) ?_
          exact a_iret dX10_size_36 rfl (hR _ _ h)
      · replace h := ite_f c8 h
        refine a_bipush (v := -2) dX10_size_17 (by decide) ?_
        exact a_iret dX10_size_19 rfl (hR _ _ h)
noncomputable def b_X10_size (n : Nat) (a0 : Nat) (x1 : Int32) (x2 : Int32) (M : Mem) : Option (Int32 × Mem) := T_X10_size_0 (fun v M => some (v, M)) none n a0 x1 x2 M
set_option maxHeartbeats 4000000 in
set_option maxRecDepth 100000 in
theorem sb_X10_size {X : Nat × (Nat → Int32)} {al : Bool} {n : Nat} {a0 : Nat} {x1 : Int32} {x2 : Int32} {M : Mem} {v : Int32} {M1 : Mem} (h : b_X10_size n a0 x1 x2 M = some (v, M1)) : AE yX10_size cX10_size 4 (some .int) al n X [.ref a0, .int x1, .int x2] M (some (.int v)) M1 := by
  refine AM.of false (by decide +kernel) (by intro h; cases h) (Nat.le_of_ble_eq_true rfl) ?_
  have h2 : T_X10_size_0 (fun v2 M2 => some (v2, M2) = some (v, M1)) (none = some (v, M1)) n a0 x1 x2 M := (n_X10_size_0 (fun o => o = some (v, M1)) (fun v M => some (v, M)) none n a0 x1 x2 M).mp h
  have h3 : ((none : Option (Int32 × Mem)) = some (v, M1)) = False := eq_false (by intro q; cases q)
  rw [h3] at h2
  exact w_X10_size_0 (fun v2 M2 h => by cases h; exact ⟨rfl, rfl⟩) h2

noncomputable abbrev f_X10_size := b_X10_size
theorem s_X10_size {X : Nat × (Nat → Int32)} {al : Bool} {n : Nat} {a0 : Nat} {x1 : Int32} {x2 : Int32} {M : Mem} {v : Int32} {M1 : Mem} (h : f_X10_size n a0 x1 x2 M = some (v, M1)) : AE yX10_size cX10_size 4 (some .int) al n X [.ref a0, .int x1, .int x2] M (some (.int v)) M1 := sb_X10_size h
set_option maxHeartbeats 4000000 in
set_option maxRecDepth 100000 in
noncomputable def T_X11_arity_0.{u} {α : Sort u} (R : Int32 → Mem → α) (N : α) (n : Nat) (x0 : Int32) (M : Mem) : α := if x0 = 0 then R 0 M else if x0 = 2 then R 2 M else if x0 = 3 then R 2 M else if x0 = 8 then R 3 M else R 1 M
set_option maxHeartbeats 4000000 in
set_option maxRecDepth 100000 in
theorem n_X11_arity_0.{u, v} {α : Sort u} {β : Sort v} (h : α → β) (R : Int32 → Mem → α) (N : α) (n : Nat) (x0 : Int32) (M : Mem) : h (T_X11_arity_0 R N n x0 M) = T_X11_arity_0 (fun v M => h (R v M)) (h N) n x0 M := by
  simp only [T_X11_arity_0, nat_ite h, nat_gd h, nat_bnd h, nat_bnd2 h]
set_option maxHeartbeats 4000000 in
set_option maxRecDepth 100000 in
theorem w_X11_arity_0 {X : Nat × (Nat → Int32)} {al : Bool} {n : Nat} {Q : Option Value → Mem → Prop} {R : Int32 → Mem → Prop} (hR : ∀ v M, R v M → Q (some (.int v)) M) {x0 : Int32} {M : Mem} (h : T_X11_arity_0 R False n x0 M) : AW X (RX11, cX11_arity, 1, (some .int), false, al, n) 0 0 0 [(0, .int x0)] [] M Q := by
  unfold T_X11_arity_0 at h
  refine a_iload_n dX11_arity_0 rfl rfl ?_
  refine a_if_ne 8 dX11_arity_1 (by decide) (fun c1 => ?_) (fun c1 => ?_)
  · replace h := ite_f c1 h
    refine a_iload_n dX11_arity_8 rfl rfl ?_
    refine a_iconst (v := 2) dX11_arity_9 (by decide) ?_
    refine a_icmp_eq 18 dX11_arity_10 (by decide) (fun c2 => ?_) (fun c2 => ?_)
    · replace h := ite_t c2 h
      refine a_iconst (v := 2) dX11_arity_18 (by decide) ?_
      refine a_goto 33 dX11_arity_19 (by decide) ?_
      exact a_iret dX11_arity_33 rfl (hR _ _ h)
    · replace h := ite_f c2 h
      refine a_iload_n dX11_arity_13 rfl rfl ?_
      refine a_iconst (v := 3) dX11_arity_14 (by decide) ?_
      refine a_icmp_ne 22 dX11_arity_15 (by decide) (fun c3 => ?_) (fun c3 => ?_)
      · replace h := ite_f c3 h
        refine a_iload_n dX11_arity_22 rfl rfl ?_
        refine a_bipush (v := 8) dX11_arity_23 (by decide) ?_
        refine a_icmp_ne 32 dX11_arity_25 (by decide) (fun c4 => ?_) (fun c4 => ?_)
        · replace h := ite_f c4 h
          refine a_iconst (v := 1) dX11_arity_32 (by decide) ?_
          exact a_iret dX11_arity_33 rfl (hR _ _ h)
        · replace h := ite_t c4 h
          refine a_iconst (v := 3) dX11_arity_28 (by decide) ?_
          refine a_goto 33 dX11_arity_29 (by decide) ?_
          exact a_iret dX11_arity_33 rfl (hR _ _ h)
      · replace h := ite_t c3 h
        refine a_iconst (v := 2) dX11_arity_18 (by decide) ?_
        refine a_goto 33 dX11_arity_19 (by decide) ?_
        exact a_iret dX11_arity_33 rfl (hR _ _ h)
  · replace h := ite_t c1 h
    refine a_iconst (v := 0) dX11_arity_4 (by decide) ?_
    refine a_goto 33 dX11_arity_5 (by decide) ?_
    exact a_iret dX11_arity_33 rfl (hR _ _ h)
noncomputable def b_X11_arity (n : Nat) (x0 : Int32) (M : Mem) : Option (Int32 × Mem) := T_X11_arity_0 (fun v M => some (v, M)) none n x0 M
set_option maxHeartbeats 4000000 in
set_option maxRecDepth 100000 in
theorem sb_X11_arity {X : Nat × (Nat → Int32)} {al : Bool} {n : Nat} {x0 : Int32} {M : Mem} {v : Int32} {M1 : Mem} (h : b_X11_arity n x0 M = some (v, M1)) : AE yX11_arity cX11_arity 1 (some .int) al n X [.int x0] M (some (.int v)) M1 := by
  refine AM.of false (by decide +kernel) (by intro h; cases h) (Nat.le_of_ble_eq_true rfl) ?_
  have h2 : T_X11_arity_0 (fun v2 M2 => some (v2, M2) = some (v, M1)) (none = some (v, M1)) n x0 M := (n_X11_arity_0 (fun o => o = some (v, M1)) (fun v M => some (v, M)) none n x0 M).mp h
  have h3 : ((none : Option (Int32 × Mem)) = some (v, M1)) = False := eq_false (by intro q; cases q)
  rw [h3] at h2
  exact w_X11_arity_0 (fun v2 M2 h => by cases h; exact ⟨rfl, rfl⟩) h2

noncomputable abbrev f_X11_arity := b_X11_arity
theorem s_X11_arity {X : Nat × (Nat → Int32)} {al : Bool} {n : Nat} {x0 : Int32} {M : Mem} {v : Int32} {M1 : Mem} (h : f_X11_arity n x0 M = some (v, M1)) : AE yX11_arity cX11_arity 1 (some .int) al n X [.int x0] M (some (.int v)) M1 := sb_X11_arity h
def ix_X11_deepestFrom (c : Nat) : List Nat := if c = 0 then [0] else if c = 19 then [0, 1, 2, 3] else []
def PW_X11_deepestFrom (X : Nat × (Nat → Int32)) (al : Bool) (n : Nat) (Q : Option Value → Mem → Prop) (c : Nat) (l : List Value) (M : Mem) : Prop := AW X (RX11, cX11_deepestFrom, 5, (some .int), false, al, n) 0 0 c (List.zip (ix_X11_deepestFrom c) l) (l.drop (ix_X11_deepestFrom c).length) M Q
set_option maxHeartbeats 4000000 in
set_option maxRecDepth 100000 in
noncomputable def T_X11_deepestFrom_0.{u} {α : Sort u} (J : Nat → List Value → Mem → α) (R : Int32 → Mem → α) (N : α) (cl : Nat → List Value → Mem → Option (Int32 × Mem)) (n : Nat) (a0 : Nat) (M : Mem) : α := gd (fO M a0 11) N (J 19 [.ref a0, .int (M.2.2.1 a0 43), .int 0, .int 0] (wI M a0 43 ((M.2.2.1 a0 43) + 1)))
set_option maxHeartbeats 4000000 in
set_option maxRecDepth 100000 in
theorem n_X11_deepestFrom_0.{u, v} {α : Sort u} {β : Sort v} (h : α → β) (J : Nat → List Value → Mem → α) (R : Int32 → Mem → α) (N : α) (cl : Nat → List Value → Mem → Option (Int32 × Mem)) (n : Nat) (a0 : Nat) (M : Mem) : h (T_X11_deepestFrom_0 J R N cl n a0 M) = T_X11_deepestFrom_0 (fun c l M => h (J c l M)) (fun v M => h (R v M)) (h N) cl n a0 M := by
  simp only [T_X11_deepestFrom_0, nat_ite h, nat_gd h, nat_bnd h, nat_bnd2 h]
set_option maxHeartbeats 4000000 in
set_option maxRecDepth 100000 in
theorem w_X11_deepestFrom_0 {X : Nat × (Nat → Int32)} {al : Bool} {n : Nat} {Q : Option Value → Mem → Prop} {J : Nat → List Value → Mem → Prop} (hJ : ∀ c l M, J c l M → PW_X11_deepestFrom X al n Q c l M) {R : Int32 → Mem → Prop} (hR : ∀ v M, R v M → Q (some (.int v)) M) {cl : Nat → List Value → Mem → Option (Int32 × Mem)} (hc_X11_deepestFrom : ∀ {a0 : Nat} {M : Mem} {v : Int32} {M1 : Mem}, cl 0 [.ref a0] M = some (v, M1) → ∃ k, n = k + 1 ∧ AE yX11_deepestFrom cX11_deepestFrom 5 (some .int) al k X [.ref a0] M (some (.int v)) M1) {a0 : Nat} {M : Mem} (h : T_X11_deepestFrom_0 J R False cl n a0 M) : AW X (RX11, cX11_deepestFrom, 5, (some .int), false, al, n) 0 0 0 [(0, .ref a0)] [] M Q := by
  unfold T_X11_deepestFrom_0 at h
  refine a_aload_n dX11_deepestFrom_0 rfl rfl ?_
  obtain ⟨⟨ga1, gs2⟩, h⟩ := gd_t h
  refine a_get (v := .int (M.2.2.1 a0 43)) dX11_deepestFrom_1 fl_11_283 ga1 gs2 rfl ?_
  refine a_istore_n dX11_deepestFrom_4 rfl (Nat.le_of_ble_eq_true rfl) (lv2 := [(1, .int (M.2.2.1 a0 43)), (0, .ref a0)]) rfl ?_
  refine a_aload_n dX11_deepestFrom_5 rfl rfl ?_
  refine a_dup dX11_deepestFrom_6 rfl ?_
  refine a_get (v := .int (M.2.2.1 a0 43)) dX11_deepestFrom_7 fl_11_283 ga1 gs2 rfl ?_
  refine a_iconst (v := 1) dX11_deepestFrom_10 (by decide) ?_
  refine a_iadd dX11_deepestFrom_11 ?_
  refine a_putI dX11_deepestFrom_12 (Or.inl ⟨fl_11_283, Or.inl rfl⟩) rfl ga1 gs2 rfl rfl ?_
  refine a_iconst (v := 0) dX11_deepestFrom_15 (by decide) ?_
  refine a_istore_n dX11_deepestFrom_16 rfl (Nat.le_of_ble_eq_true rfl) (lv2 := [(2, .int 0), (1, .int (M.2.2.1 a0 43)), (0, .ref a0)]) rfl ?_
  refine a_iconst (v := 0) dX11_deepestFrom_17 (by decide) ?_
  refine a_istore_n dX11_deepestFrom_18 rfl (Nat.le_of_ble_eq_true rfl) (lv2 := [(3, .int 0), (2, .int 0), (1, .int (M.2.2.1 a0 43)), (0, .ref a0)]) rfl ?_
  exact a_lv (lv2 := [(0, .ref a0), (1, .int (M.2.2.1 a0 43)), (2, .int 0), (3, .int 0)]) (fa_cons rfl (fa_cons rfl (fa_cons rfl (fa_cons rfl fa_nil)))) (hJ _ _ _ h)
set_option maxHeartbeats 4000000 in
set_option maxRecDepth 100000 in
noncomputable def T_X11_deepestFrom_19.{u} {α : Sort u} (J : Nat → List Value → Mem → α) (R : Int32 → Mem → α) (N : α) (cl : Nat → List Value → Mem → Option (Int32 × Mem)) (n : Nat) (a0 : Nat) (x1 : Int32) (x2 : Int32) (x3 : Int32) (M : Mem) : α := gd (fO M a0 11) N (bnd (M.2.2.2.2 a0 20) N (fun r3 => gd (fA M r3 1 x1) N (bnd2 (cal n (fun n => f_X11_arity n (M.2.2.1 r3 (x1.toNatClampNeg)) M)) N (fun v9 M10 => if v9 ≤ x3 then R (x2 + 1) M10 else gd (fO M10 a0 11) N (bnd2 (cl 0 [.ref a0] M10) N (fun v17 M18 => if v17 ≤ x2 then J 19 [.ref a0, .int x1, .int x2, .int (x3 + 1)] M18 else J 19 [.ref a0, .int x1, .int v17, .int (x3 + 1)] M18))))))
set_option maxHeartbeats 4000000 in
set_option maxRecDepth 100000 in
theorem n_X11_deepestFrom_19.{u, v} {α : Sort u} {β : Sort v} (h : α → β) (J : Nat → List Value → Mem → α) (R : Int32 → Mem → α) (N : α) (cl : Nat → List Value → Mem → Option (Int32 × Mem)) (n : Nat) (a0 : Nat) (x1 : Int32) (x2 : Int32) (x3 : Int32) (M : Mem) : h (T_X11_deepestFrom_19 J R N cl n a0 x1 x2 x3 M) = T_X11_deepestFrom_19 (fun c l M => h (J c l M)) (fun v M => h (R v M)) (h N) cl n a0 x1 x2 x3 M := by
  simp only [T_X11_deepestFrom_19, nat_ite h, nat_gd h, nat_bnd h, nat_bnd2 h]
set_option maxHeartbeats 4000000 in
set_option maxRecDepth 100000 in
theorem w_X11_deepestFrom_19 {X : Nat × (Nat → Int32)} {al : Bool} {n : Nat} {Q : Option Value → Mem → Prop} {J : Nat → List Value → Mem → Prop} (hJ : ∀ c l M, J c l M → PW_X11_deepestFrom X al n Q c l M) {R : Int32 → Mem → Prop} (hR : ∀ v M, R v M → Q (some (.int v)) M) {cl : Nat → List Value → Mem → Option (Int32 × Mem)} (hc_X11_deepestFrom : ∀ {a0 : Nat} {M : Mem} {v : Int32} {M1 : Mem}, cl 0 [.ref a0] M = some (v, M1) → ∃ k, n = k + 1 ∧ AE yX11_deepestFrom cX11_deepestFrom 5 (some .int) al k X [.ref a0] M (some (.int v)) M1) {a0 : Nat} {x1 : Int32} {x2 : Int32} {x3 : Int32} {M : Mem} (h : T_X11_deepestFrom_19 J R False cl n a0 x1 x2 x3 M) : AW X (RX11, cX11_deepestFrom, 5, (some .int), false, al, n) 0 0 19 [(0, .ref a0), (1, .int x1), (2, .int x2), (3, .int x3)] [] M Q := by
  unfold T_X11_deepestFrom_19 at h
  refine a_iload_n dX11_deepestFrom_19 rfl rfl ?_
  refine a_aload_n dX11_deepestFrom_20 rfl rfl ?_
  obtain ⟨⟨ga1, gs2⟩, h⟩ := gd_t h
  obtain ⟨r3, e4, h⟩ := bnd_t h
  refine a_get (v := .ref r3) dX11_deepestFrom_21 fl_11_59 ga1 gs2 (gvR e4 rfl) ?_
  refine a_iload_n dX11_deepestFrom_24 rfl rfl ?_
  obtain ⟨⟨ga5, gn6, gs7, gi8⟩, h⟩ := gd_t h
  refine a_iaload dX11_deepestFrom_25 ga5 gs7 gi8 ?_
  obtain ⟨v9, M10, e11, h⟩ := bnd2_t h
  obtain ⟨n12, en13, e11⟩ := cal_t e11
  refine e_callS (As := [.int (M.2.2.1 r3 (x1.toNatClampNeg))]) (st := [.int x3]) false dX11_deepestFrom_26 mw_X11_arity (Or.inl ⟨rfl, ml_X11_297⟩) sm_X11_arity rfl (Nat.le_of_ble_eq_true rfl) en13 (s_X11_arity e11) ?_
  refine a_icmp_ge 57 dX11_deepestFrom_29 (by decide) (fun c14 => ?_) (fun c14 => ?_)
  · replace h := ite_t c14 h
    refine a_iload_n dX11_deepestFrom_57 rfl rfl ?_
    refine a_iconst (v := 1) dX11_deepestFrom_58 (by decide) ?_
    refine a_iadd dX11_deepestFrom_59 ?_
    exact a_iret dX11_deepestFrom_60 rfl (hR _ _ h)
  · replace h := ite_f c14 h
    refine a_aload_n dX11_deepestFrom_32 rfl rfl ?_
    obtain ⟨⟨ga15, gs16⟩, h⟩ := gd_t h
    obtain ⟨v17, M18, e19, h⟩ := bnd2_t h
    obtain ⟨n20, en21, e19⟩ := hc_X11_deepestFrom e19
    refine e_callV (As := []) (st := []) (a := a0) (ci := 11) false dX11_deepestFrom_33 mw_X11_deepestFrom (Or.inl ⟨rfl, ml_X11_397⟩) im_X11_deepestFrom se_X11_deepestFrom (by decide) ga15 gs16 rfl (Nat.le_of_ble_eq_true rfl) en21 e19 ?_
    refine a_istore dX11_deepestFrom_36 (Nat.le_of_ble_eq_true rfl) (lv2 := [(4, .int v17), (0, .ref a0), (1, .int x1), (2, .int x2), (3, .int x3)]) rfl ?_
    refine a_iload dX11_deepestFrom_38 rfl ?_
    refine a_iload_n dX11_deepestFrom_40 rfl rfl ?_
    refine a_icmp_le 49 dX11_deepestFrom_41 (by decide) (fun c22 => ?_) (fun c22 => ?_)
    · replace h := ite_t c22 h
      refine a_iload_n dX11_deepestFrom_49 rfl rfl ?_
      refine a_istore_n dX11_deepestFrom_50 rfl (Nat.le_of_ble_eq_true rfl) (lv2 := [(2, .int x2), (4, .int v17), (0, .ref a0), (1, .int x1), (3, .int x3)]) rfl ?_
      refine a_iinc (v := (x3 + 1)) dX11_deepestFrom_51 rfl (by first | rfl | decide) (Nat.le_of_ble_eq_true rfl) (lv2 := [(3, .int (x3 + 1)), (2, .int x2), (4, .int v17), (0, .ref a0), (1, .int x1)]) rfl ?_
      refine a_goto 19 dX11_deepestFrom_54 (by decide) ?_
      exact a_lv (lv2 := [(0, .ref a0), (1, .int x1), (2, .int x2), (3, .int (x3 + 1))]) (fa_cons rfl (fa_cons rfl (fa_cons rfl (fa_cons rfl fa_nil)))) (hJ _ _ _ h)
    · replace h := ite_f c22 h
      refine a_iload dX11_deepestFrom_44 rfl ?_
      refine a_goto 50 dX11_deepestFrom_46 (by decide) ?_
      refine a_istore_n dX11_deepestFrom_50 rfl (Nat.le_of_ble_eq_true rfl) (lv2 := [(2, .int v17), (4, .int v17), (0, .ref a0), (1, .int x1), (3, .int x3)]) rfl ?_
      refine a_iinc (v := (x3 + 1)) dX11_deepestFrom_51 rfl (by first | rfl | decide) (Nat.le_of_ble_eq_true rfl) (lv2 := [(3, .int (x3 + 1)), (2, .int v17), (4, .int v17), (0, .ref a0), (1, .int x1)]) rfl ?_
      refine a_goto 19 dX11_deepestFrom_54 (by decide) ?_
      exact a_lv (lv2 := [(0, .ref a0), (1, .int x1), (2, .int v17), (3, .int (x3 + 1))]) (fa_cons rfl (fa_cons rfl (fa_cons rfl (fa_cons rfl fa_nil)))) (hJ _ _ _ h)
set_option maxHeartbeats 4000000 in
set_option maxRecDepth 100000 in
noncomputable def st_X11_deepestFrom (cl : Nat → List Value → Mem → Option (Int32 × Mem)) (n : Nat) (s : Sg) : Option (Sg ⊕ (Int32 × Mem)) := if s.1 = 0 then vR s.2.1 none (fun a0 t => vE t none (T_X11_deepestFrom_0 (fun c l M => some (.inl (c, l, M))) (fun v M => some (.inr (v, M))) none cl n a0 s.2.2)) else if s.1 = 19 then vR s.2.1 none (fun a0 t => vI t none (fun x1 t => vI t none (fun x2 t => vI t none (fun x3 t => vE t none (T_X11_deepestFrom_19 (fun c l M => some (.inl (c, l, M))) (fun v M => some (.inr (v, M))) none cl n a0 x1 x2 x3 s.2.2))))) else none
noncomputable abbrev g_X11_deepestFrom_0 (cl : Nat → List Value → Mem → Option (Int32 × Mem)) (n : Nat) (a0 : Nat) (M : Mem) : Option (Int32 × Mem) := lp (st_X11_deepestFrom cl n) (0, [.ref a0], M)
set_option maxHeartbeats 4000000 in
set_option maxRecDepth 100000 in
theorem ge_X11_deepestFrom_0 (cl : Nat → List Value → Mem → Option (Int32 × Mem)) (n : Nat) (a0 : Nat) (M : Mem) : g_X11_deepestFrom_0 cl n a0 M = T_X11_deepestFrom_0 (fun c l M => lp (st_X11_deepestFrom cl n) (c, l, M)) (fun v M => some (v, M)) none cl n a0 M := (lp_eq _ _).trans (n_X11_deepestFrom_0 (lpK (st_X11_deepestFrom cl n)) (fun c l M => some (.inl (c, l, M))) (fun v M => some (.inr (v, M))) none cl n a0 M)
noncomputable abbrev g_X11_deepestFrom_19 (cl : Nat → List Value → Mem → Option (Int32 × Mem)) (n : Nat) (a0 : Nat) (x1 : Int32) (x2 : Int32) (x3 : Int32) (M : Mem) : Option (Int32 × Mem) := lp (st_X11_deepestFrom cl n) (19, [.ref a0, .int x1, .int x2, .int x3], M)
set_option maxHeartbeats 4000000 in
set_option maxRecDepth 100000 in
theorem ge_X11_deepestFrom_19 (cl : Nat → List Value → Mem → Option (Int32 × Mem)) (n : Nat) (a0 : Nat) (x1 : Int32) (x2 : Int32) (x3 : Int32) (M : Mem) : g_X11_deepestFrom_19 cl n a0 x1 x2 x3 M = T_X11_deepestFrom_19 (fun c l M => lp (st_X11_deepestFrom cl n) (c, l, M)) (fun v M => some (v, M)) none cl n a0 x1 x2 x3 M := (lp_eq _ _).trans (n_X11_deepestFrom_19 (lpK (st_X11_deepestFrom cl n)) (fun c l M => some (.inl (c, l, M))) (fun v M => some (.inr (v, M))) none cl n a0 x1 x2 x3 M)
noncomputable def b_X11_deepestFrom (cl : Nat → List Value → Mem → Option (Int32 × Mem)) (n : Nat) (a0 : Nat) (M : Mem) : Option (Int32 × Mem) := g_X11_deepestFrom_0 cl n a0 M
set_option maxHeartbeats 4000000 in
set_option maxRecDepth 100000 in
theorem sb_X11_deepestFrom {X : Nat × (Nat → Int32)} {al : Bool} {n : Nat} {cl : Nat → List Value → Mem → Option (Int32 × Mem)} (hc_X11_deepestFrom : ∀ {a0 : Nat} {M : Mem} {v : Int32} {M1 : Mem}, cl 0 [.ref a0] M = some (v, M1) → ∃ k, n = k + 1 ∧ AE yX11_deepestFrom cX11_deepestFrom 5 (some .int) al k X [.ref a0] M (some (.int v)) M1) {a0 : Nat} {M : Mem} {v : Int32} {M1 : Mem} (h : b_X11_deepestFrom cl n a0 M = some (v, M1)) : AE yX11_deepestFrom cX11_deepestFrom 5 (some .int) al n X [.ref a0] M (some (.int v)) M1 := by
  refine AM.of false (by decide +kernel) (by intro h; cases h) (Nat.le_of_ble_eq_true rfl) ?_
  refine lp_snd (P := fun s r => PW_X11_deepestFrom X al n (fun v M2 => v = (some (.int r.1)) ∧ M2 = r.2) s.1 s.2.1 s.2.2) ?_ h
  clear h
  rintro ⟨c, l, M⟩ r h
  unfold st_X11_deepestFrom at h
  rcases ite_p h with ⟨e, h⟩ | ⟨e, h⟩
  · replace e : c = 0 := e
    subst e
    obtain ⟨a0, tt0, e, h⟩ := vR_p id h
    replace e : l = _ := e
    subst e
    obtain ⟨e, h⟩ := vE_p id h
    replace e : tt0 = [] := e
    subst e
    exact w_X11_deepestFrom_0 (J := fun c l M => PW_X11_deepestFrom X al n (fun v M2 => v = (some (.int r.1)) ∧ M2 = r.2) c l M) (R := fun v M => (v, M) = r) (fun _ _ _ h => h) (fun v M h => by cases h; exact ⟨rfl, rfl⟩) hc_X11_deepestFrom ((n_X11_deepestFrom_0 (lpP (fun (s : Sg) (r : Int32 × Mem) => PW_X11_deepestFrom X al n (fun v M2 => v = (some (.int r.1)) ∧ M2 = r.2) s.1 s.2.1 s.2.2) r) (fun c l M => some (.inl (c, l, M))) (fun v M => some (.inr (v, M))) none cl n a0 M).mp h)
  rcases ite_p h with ⟨e, h⟩ | ⟨e, h⟩
  · replace e : c = 19 := e
    subst e
    obtain ⟨a0, tt0, e, h⟩ := vR_p id h
    replace e : l = _ := e
    subst e
    obtain ⟨x1, tt1, e, h⟩ := vI_p id h
    replace e : tt0 = _ := e
    subst e
    obtain ⟨x2, tt2, e, h⟩ := vI_p id h
    replace e : tt1 = _ := e
    subst e
    obtain ⟨x3, tt3, e, h⟩ := vI_p id h
    replace e : tt2 = _ := e
    subst e
    obtain ⟨e, h⟩ := vE_p id h
    replace e : tt3 = [] := e
    subst e
    exact w_X11_deepestFrom_19 (J := fun c l M => PW_X11_deepestFrom X al n (fun v M2 => v = (some (.int r.1)) ∧ M2 = r.2) c l M) (R := fun v M => (v, M) = r) (fun _ _ _ h => h) (fun v M h => by cases h; exact ⟨rfl, rfl⟩) hc_X11_deepestFrom ((n_X11_deepestFrom_19 (lpP (fun (s : Sg) (r : Int32 × Mem) => PW_X11_deepestFrom X al n (fun v M2 => v = (some (.int r.1)) ∧ M2 = r.2) s.1 s.2.1 s.2.2) r) (fun c l M => some (.inl (c, l, M))) (fun v M => some (.inr (v, M))) none cl n a0 x1 x2 x3 M).mp h)
  · exact h.elim

noncomputable def F_X11_deepestFrom (cl : Nat → List Value → Mem → Option (Int32 × Mem)) (n k : Nat) (l : List Value) (M : Mem) : Option (Int32 × Mem) := if k = 0 then vR l none (fun a0 t => vE t none (b_X11_deepestFrom cl n a0 M)) else none
noncomputable def r_X11_deepestFrom : Nat → Nat → List Value → Mem → Option (Int32 × Mem)
  | 0 => F_X11_deepestFrom (fun _ _ _ => none) 0
  | n + 1 => F_X11_deepestFrom (r_X11_deepestFrom n) (n + 1)
noncomputable abbrev f_X11_deepestFrom (n : Nat) (a0 : Nat) (M : Mem) : Option (Int32 × Mem) := r_X11_deepestFrom n 0 [.ref a0] M
set_option maxHeartbeats 4000000 in
set_option maxRecDepth 100000 in
theorem sr_X11_deepestFrom {X : Nat × (Nat → Int32)} {al : Bool} : ∀ n : Nat, (∀ {a0 : Nat} {M : Mem} {v : Int32} {M1 : Mem}, f_X11_deepestFrom n a0 M = some (v, M1) → AE yX11_deepestFrom cX11_deepestFrom 5 (some .int) al n X [.ref a0] M (some (.int v)) M1) := by
  intro n
  induction n with
  | zero => exact (fun h => sb_X11_deepestFrom (cl := fun _ _ _ => none) (fun h => by cases h) h)
  | succ n ih => exact (fun h => sb_X11_deepestFrom (cl := r_X11_deepestFrom n) (fun h => ⟨n, rfl, ih h⟩) h)
theorem s_X11_deepestFrom {X : Nat × (Nat → Int32)} {al : Bool} {n : Nat} {a0 : Nat} {M : Mem} {v : Int32} {M1 : Mem} (h : f_X11_deepestFrom n a0 M = some (v, M1)) : AE yX11_deepestFrom cX11_deepestFrom 5 (some .int) al n X [.ref a0] M (some (.int v)) M1 := (sr_X11_deepestFrom n) h
set_option maxHeartbeats 4000000 in
set_option maxRecDepth 100000 in
noncomputable def T_X11_deepest_0.{u} {α : Sort u} (R : Int32 → Mem → α) (N : α) (n : Nat) (a0 : Nat) (M : Mem) : α := gd (fO M a0 11) N (bnd2 (cal n (fun n => f_X11_deepestFrom n a0 (wI M a0 43 0))) N (fun v3 M4 => R v3 M4))
set_option maxHeartbeats 4000000 in
set_option maxRecDepth 100000 in
theorem n_X11_deepest_0.{u, v} {α : Sort u} {β : Sort v} (h : α → β) (R : Int32 → Mem → α) (N : α) (n : Nat) (a0 : Nat) (M : Mem) : h (T_X11_deepest_0 R N n a0 M) = T_X11_deepest_0 (fun v M => h (R v M)) (h N) n a0 M := by
  simp only [T_X11_deepest_0, nat_ite h, nat_gd h, nat_bnd h, nat_bnd2 h]
set_option maxHeartbeats 4000000 in
set_option maxRecDepth 100000 in
theorem w_X11_deepest_0 {X : Nat × (Nat → Int32)} {al : Bool} {n : Nat} {Q : Option Value → Mem → Prop} {R : Int32 → Mem → Prop} (hR : ∀ v M, R v M → Q (some (.int v)) M) {a0 : Nat} {M : Mem} (h : T_X11_deepest_0 R False n a0 M) : AW X (RX11, cX11_deepest, 1, (some .int), false, al, n) 0 0 0 [(0, .ref a0)] [] M Q := by
  unfold T_X11_deepest_0 at h
  refine a_aload_n dX11_deepest_0 rfl rfl ?_
  refine a_iconst (v := 0) dX11_deepest_1 (by decide) ?_
  obtain ⟨⟨ga1, gs2⟩, h⟩ := gd_t h
  refine a_putI dX11_deepest_2 (Or.inl ⟨fl_11_283, Or.inl rfl⟩) rfl ga1 gs2 rfl rfl ?_
  refine a_aload_n dX11_deepest_5 rfl rfl ?_
  obtain ⟨v3, M4, e5, h⟩ := bnd2_t h
  obtain ⟨n6, en7, e5⟩ := cal_t e5
  refine e_callV (As := []) (st := []) (a := a0) (ci := 11) false dX11_deepest_6 mw_X11_deepestFrom (Or.inl ⟨rfl, ml_X11_397⟩) im_X11_deepestFrom se_X11_deepestFrom (by decide) ga1 gs2 rfl (Nat.le_of_ble_eq_true rfl) en7 (s_X11_deepestFrom e5) ?_
  exact a_iret dX11_deepest_9 rfl (hR _ _ h)
noncomputable def b_X11_deepest (n : Nat) (a0 : Nat) (M : Mem) : Option (Int32 × Mem) := T_X11_deepest_0 (fun v M => some (v, M)) none n a0 M
set_option maxHeartbeats 4000000 in
set_option maxRecDepth 100000 in
theorem sb_X11_deepest {X : Nat × (Nat → Int32)} {al : Bool} {n : Nat} {a0 : Nat} {M : Mem} {v : Int32} {M1 : Mem} (h : b_X11_deepest n a0 M = some (v, M1)) : AE yX11_deepest cX11_deepest 1 (some .int) al n X [.ref a0] M (some (.int v)) M1 := by
  refine AM.of false (by decide +kernel) (by intro h; cases h) (Nat.le_of_ble_eq_true rfl) ?_
  have h2 : T_X11_deepest_0 (fun v2 M2 => some (v2, M2) = some (v, M1)) (none = some (v, M1)) n a0 M := (n_X11_deepest_0 (fun o => o = some (v, M1)) (fun v M => some (v, M)) none n a0 M).mp h
  have h3 : ((none : Option (Int32 × Mem)) = some (v, M1)) = False := eq_false (by intro q; cases q)
  rw [h3] at h2
  exact w_X11_deepest_0 (fun v2 M2 h => by cases h; exact ⟨rfl, rfl⟩) h2

noncomputable abbrev f_X11_deepest := b_X11_deepest
theorem s_X11_deepest {X : Nat × (Nat → Int32)} {al : Bool} {n : Nat} {a0 : Nat} {M : Mem} {v : Int32} {M1 : Mem} (h : f_X11_deepest n a0 M = some (v, M1)) : AE yX11_deepest cX11_deepest 1 (some .int) al n X [.ref a0] M (some (.int v)) M1 := sb_X11_deepest h
def ix_X11_unlike (c : Nat) : List Nat := if c = 0 then [0, 1] else if c = 7 then [0, 1, 2, 3] else if c = 39 then [0, 3] else if c = 68 then [0, 3, 4] else []
def PW_X11_unlike (X : Nat × (Nat → Int32)) (al : Bool) (n : Nat) (Q : Option Value → Mem → Prop) (c : Nat) (l : List Value) (M : Mem) : Prop := AW X (RX11, cX11_unlike, 5, (some .int), false, al, n) 0 0 c (List.zip (ix_X11_unlike c) l) (l.drop (ix_X11_unlike c).length) M Q
set_option maxHeartbeats 4000000 in
set_option maxRecDepth 100000 in
noncomputable def T_X11_unlike_0.{u} {α : Sort u} (J : Nat → List Value → Mem → α) (R : Int32 → Mem → α) (N : α) (n : Nat) (a0 : Nat) (x1 : Int32) (M : Mem) : α := gd (fO M a0 11) N (bnd2 (cal n (fun n => f_X11_asked n a0 M)) N (fun v3 M4 => J 7 [.ref a0, .int x1, .int v3, .int 0] M4))
set_option maxHeartbeats 4000000 in
set_option maxRecDepth 100000 in
theorem n_X11_unlike_0.{u, v} {α : Sort u} {β : Sort v} (h : α → β) (J : Nat → List Value → Mem → α) (R : Int32 → Mem → α) (N : α) (n : Nat) (a0 : Nat) (x1 : Int32) (M : Mem) : h (T_X11_unlike_0 J R N n a0 x1 M) = T_X11_unlike_0 (fun c l M => h (J c l M)) (fun v M => h (R v M)) (h N) n a0 x1 M := by
  simp only [T_X11_unlike_0, nat_ite h, nat_gd h, nat_bnd h, nat_bnd2 h]
set_option maxHeartbeats 4000000 in
set_option maxRecDepth 100000 in
theorem w_X11_unlike_0 {X : Nat × (Nat → Int32)} {al : Bool} {n : Nat} {Q : Option Value → Mem → Prop} {J : Nat → List Value → Mem → Prop} (hJ : ∀ c l M, J c l M → PW_X11_unlike X al n Q c l M) {R : Int32 → Mem → Prop} (hR : ∀ v M, R v M → Q (some (.int v)) M) {a0 : Nat} {x1 : Int32} {M : Mem} (h : T_X11_unlike_0 J R False n a0 x1 M) : AW X (RX11, cX11_unlike, 5, (some .int), false, al, n) 0 0 0 [(0, .ref a0), (1, .int x1)] [] M Q := by
  unfold T_X11_unlike_0 at h
  refine a_aload_n dX11_unlike_0 rfl rfl ?_
  obtain ⟨⟨ga1, gs2⟩, h⟩ := gd_t h
  obtain ⟨v3, M4, e5, h⟩ := bnd2_t h
  obtain ⟨n6, en7, e5⟩ := cal_t e5
  refine e_callV (As := []) (st := []) (a := a0) (ci := 11) false dX11_unlike_1 mw_X11_asked (Or.inl ⟨rfl, ml_X11_331⟩) im_X11_asked se_X11_asked (by decide) ga1 gs2 rfl (Nat.le_of_ble_eq_true rfl) en7 (s_X11_asked e5) ?_
  refine a_istore_n dX11_unlike_4 rfl (Nat.le_of_ble_eq_true rfl) (lv2 := [(2, .int v3), (0, .ref a0), (1, .int x1)]) rfl ?_
  refine a_iconst (v := 0) dX11_unlike_5 (by decide) ?_
  refine a_istore_n dX11_unlike_6 rfl (Nat.le_of_ble_eq_true rfl) (lv2 := [(3, .int 0), (2, .int v3), (0, .ref a0), (1, .int x1)]) rfl ?_
  exact a_lv (lv2 := [(0, .ref a0), (1, .int x1), (2, .int v3), (3, .int 0)]) (fa_cons rfl (fa_cons rfl (fa_cons rfl (fa_cons rfl fa_nil)))) (hJ _ _ _ h)
set_option maxHeartbeats 4000000 in
set_option maxRecDepth 100000 in
noncomputable def T_X11_unlike_7.{u} {α : Sort u} (J : Nat → List Value → Mem → α) (R : Int32 → Mem → α) (N : α) (n : Nat) (a0 : Nat) (x1 : Int32) (x2 : Int32) (x3 : Int32) (M : Mem) : α := gd (fO M a0 11) N (if (M.2.2.1 a0 7) ≤ x3 then if x1 = 0 then J 68 [.ref a0, .int 0, .int 0] M else bnd2 (cal n (fun n => f_X11_marks n a0 x2 M)) N (fun _ M5 => J 39 [.ref a0, .int 0] M5) else bnd (M.2.2.2.2 a0 6) N (fun r9 => gd (fA M r9 1 x3) N (J 7 [.ref a0, .int x1, .int x2, .int (x3 + 1)] (wI M r9 (x3.toNatClampNeg) (-1)))))
set_option maxHeartbeats 4000000 in
set_option maxRecDepth 100000 in
theorem n_X11_unlike_7.{u, v} {α : Sort u} {β : Sort v} (h : α → β) (J : Nat → List Value → Mem → α) (R : Int32 → Mem → α) (N : α) (n : Nat) (a0 : Nat) (x1 : Int32) (x2 : Int32) (x3 : Int32) (M : Mem) : h (T_X11_unlike_7 J R N n a0 x1 x2 x3 M) = T_X11_unlike_7 (fun c l M => h (J c l M)) (fun v M => h (R v M)) (h N) n a0 x1 x2 x3 M := by
  simp only [T_X11_unlike_7, nat_ite h, nat_gd h, nat_bnd h, nat_bnd2 h]
set_option maxHeartbeats 4000000 in
set_option maxRecDepth 100000 in
theorem w_X11_unlike_7 {X : Nat × (Nat → Int32)} {al : Bool} {n : Nat} {Q : Option Value → Mem → Prop} {J : Nat → List Value → Mem → Prop} (hJ : ∀ c l M, J c l M → PW_X11_unlike X al n Q c l M) {R : Int32 → Mem → Prop} (hR : ∀ v M, R v M → Q (some (.int v)) M) {a0 : Nat} {x1 : Int32} {x2 : Int32} {x3 : Int32} {M : Mem} (h : T_X11_unlike_7 J R False n a0 x1 x2 x3 M) : AW X (RX11, cX11_unlike, 5, (some .int), false, al, n) 0 0 7 [(0, .ref a0), (1, .int x1), (2, .int x2), (3, .int x3)] [] M Q := by
  unfold T_X11_unlike_7 at h
  refine a_iload_n dX11_unlike_7 rfl rfl ?_
  refine a_aload_n dX11_unlike_8 rfl rfl ?_
  obtain ⟨⟨ga1, gs2⟩, h⟩ := gd_t h
  refine a_get (v := .int (M.2.2.1 a0 7)) dX11_unlike_9 fl_11_137 ga1 gs2 rfl ?_
  refine a_icmp_ge 28 dX11_unlike_12 (by decide) (fun c3 => ?_) (fun c3 => ?_)
  · replace h := ite_t c3 h
    refine a_iload_n dX11_unlike_28 rfl rfl ?_
    refine a_if_eq 63 dX11_unlike_29 (by decide) (fun c4 => ?_) (fun c4 => ?_)
    · replace h := ite_t c4 h
      refine a_iconst (v := 0) dX11_unlike_63 (by decide) ?_
      refine a_istore_n dX11_unlike_64 rfl (Nat.le_of_ble_eq_true rfl) (lv2 := [(3, .int 0), (0, .ref a0), (1, .int x1), (2, .int x2)]) rfl ?_
      refine a_iconst (v := 0) dX11_unlike_65 (by decide) ?_
      refine a_istore dX11_unlike_66 (Nat.le_of_ble_eq_true rfl) (lv2 := [(4, .int 0), (3, .int 0), (0, .ref a0), (1, .int x1), (2, .int x2)]) rfl ?_
      exact a_lv (lv2 := [(0, .ref a0), (3, .int 0), (4, .int 0)]) (fa_cons rfl (fa_cons rfl (fa_cons rfl fa_nil))) (hJ _ _ _ h)
    · replace h := ite_f c4 h
      refine a_aload_n dX11_unlike_32 rfl rfl ?_
      refine a_iload_n dX11_unlike_33 rfl rfl ?_
      obtain ⟨_, M5, e6, h⟩ := bnd2_t h
      obtain ⟨n7, en8, e6⟩ := cal_t e6
      refine e_callV (As := [.int x2]) (st := []) (a := a0) (ci := 11) false dX11_unlike_34 mw_X11_marks (Or.inl ⟨rfl, ml_X11_147⟩) im_X11_marks se_X11_marks (by decide) ga1 gs2 rfl (Nat.le_of_ble_eq_true rfl) en8 (s_X11_marks e6) ?_
      refine a_iconst (v := 0) dX11_unlike_37 (by decide) ?_
      refine a_istore_n dX11_unlike_38 rfl (Nat.le_of_ble_eq_true rfl) (lv2 := [(3, .int 0), (0, .ref a0), (1, .int x1), (2, .int x2)]) rfl ?_
      exact a_lv (lv2 := [(0, .ref a0), (3, .int 0)]) (fa_cons rfl (fa_cons rfl fa_nil)) (hJ _ _ _ h)
  · replace h := ite_f c3 h
    refine a_aload_n dX11_unlike_15 rfl rfl ?_
    obtain ⟨r9, e10, h⟩ := bnd_t h
    refine a_get (v := .ref r9) dX11_unlike_16 fl_11_29 ga1 gs2 (gvR e10 rfl) ?_
    refine a_iload_n dX11_unlike_19 rfl rfl ?_
    refine a_iconst (v := -1) dX11_unlike_20 (by decide) ?_
    obtain ⟨⟨ga11, gn12, gs13, gi14⟩, h⟩ := gd_t h
    refine a_iastore dX11_unlike_21 ga11 gs13 gi14 ?_
    refine a_iinc (v := (x3 + 1)) dX11_unlike_22 rfl (by first | rfl | decide) (Nat.le_of_ble_eq_true rfl) (lv2 := [(3, .int (x3 + 1)), (0, .ref a0), (1, .int x1), (2, .int x2)]) rfl ?_
    refine a_goto 7 dX11_unlike_25 (by decide) ?_
    exact a_lv (lv2 := [(0, .ref a0), (1, .int x1), (2, .int x2), (3, .int (x3 + 1))]) (fa_cons rfl (fa_cons rfl (fa_cons rfl (fa_cons rfl fa_nil)))) (hJ _ _ _ h)
set_option maxHeartbeats 4000000 in
set_option maxRecDepth 100000 in
noncomputable def T_X11_unlike_39.{u} {α : Sort u} (J : Nat → List Value → Mem → α) (R : Int32 → Mem → α) (N : α) (n : Nat) (a0 : Nat) (x3 : Int32) (M : Mem) : α := gd (fO M a0 11) N (if (M.2.2.1 a0 15) ≤ x3 then J 68 [.ref a0, .int 0, .int 0] M else bnd (M.2.2.2.2 a0 11) N (fun r4 => gd (fA M r4 1 x3) N (bnd2 (cal n (fun n => f_X11_marks n a0 (M.2.2.1 r4 (x3.toNatClampNeg)) M)) N (fun _ M10 => J 39 [.ref a0, .int (x3 + 1)] M10))))
set_option maxHeartbeats 4000000 in
set_option maxRecDepth 100000 in
theorem n_X11_unlike_39.{u, v} {α : Sort u} {β : Sort v} (h : α → β) (J : Nat → List Value → Mem → α) (R : Int32 → Mem → α) (N : α) (n : Nat) (a0 : Nat) (x3 : Int32) (M : Mem) : h (T_X11_unlike_39 J R N n a0 x3 M) = T_X11_unlike_39 (fun c l M => h (J c l M)) (fun v M => h (R v M)) (h N) n a0 x3 M := by
  simp only [T_X11_unlike_39, nat_ite h, nat_gd h, nat_bnd h, nat_bnd2 h]
set_option maxHeartbeats 4000000 in
set_option maxRecDepth 100000 in
theorem w_X11_unlike_39 {X : Nat × (Nat → Int32)} {al : Bool} {n : Nat} {Q : Option Value → Mem → Prop} {J : Nat → List Value → Mem → Prop} (hJ : ∀ c l M, J c l M → PW_X11_unlike X al n Q c l M) {R : Int32 → Mem → Prop} (hR : ∀ v M, R v M → Q (some (.int v)) M) {a0 : Nat} {x3 : Int32} {M : Mem} (h : T_X11_unlike_39 J R False n a0 x3 M) : AW X (RX11, cX11_unlike, 5, (some .int), false, al, n) 0 0 39 [(0, .ref a0), (3, .int x3)] [] M Q := by
  unfold T_X11_unlike_39 at h
  refine a_iload_n dX11_unlike_39 rfl rfl ?_
  refine a_aload_n dX11_unlike_40 rfl rfl ?_
  obtain ⟨⟨ga1, gs2⟩, h⟩ := gd_t h
  refine a_get (v := .int (M.2.2.1 a0 15)) dX11_unlike_41 fl_11_144 ga1 gs2 rfl ?_
  refine a_icmp_ge 63 dX11_unlike_44 (by decide) (fun c3 => ?_) (fun c3 => ?_)
  · replace h := ite_t c3 h
    refine a_iconst (v := 0) dX11_unlike_63 (by decide) ?_
    refine a_istore_n dX11_unlike_64 rfl (Nat.le_of_ble_eq_true rfl) (lv2 := [(3, .int 0), (0, .ref a0)]) rfl ?_
    refine a_iconst (v := 0) dX11_unlike_65 (by decide) ?_
    refine a_istore dX11_unlike_66 (Nat.le_of_ble_eq_true rfl) (lv2 := [(4, .int 0), (3, .int 0), (0, .ref a0)]) rfl ?_
    exact a_lv (lv2 := [(0, .ref a0), (3, .int 0), (4, .int 0)]) (fa_cons rfl (fa_cons rfl (fa_cons rfl fa_nil))) (hJ _ _ _ h)
  · replace h := ite_f c3 h
    refine a_aload_n dX11_unlike_47 rfl rfl ?_
    refine a_aload_n dX11_unlike_48 rfl rfl ?_
    obtain ⟨r4, e5, h⟩ := bnd_t h
    refine a_get (v := .ref r4) dX11_unlike_49 fl_11_38 ga1 gs2 (gvR e5 rfl) ?_
    refine a_iload_n dX11_unlike_52 rfl rfl ?_
    obtain ⟨⟨ga6, gn7, gs8, gi9⟩, h⟩ := gd_t h
    refine a_iaload dX11_unlike_53 ga6 gs8 gi9 ?_
    obtain ⟨_, M10, e11, h⟩ := bnd2_t h
    obtain ⟨n12, en13, e11⟩ := cal_t e11
    refine e_callV (As := [.int (M.2.2.1 r4 (x3.toNatClampNeg))]) (st := []) (a := a0) (ci := 11) false dX11_unlike_54 mw_X11_marks (Or.inl ⟨rfl, ml_X11_147⟩) im_X11_marks se_X11_marks (by decide) ga1 gs2 rfl (Nat.le_of_ble_eq_true rfl) en13 (s_X11_marks e11) ?_
    refine a_iinc (v := (x3 + 1)) dX11_unlike_57 rfl (by first | rfl | decide) (Nat.le_of_ble_eq_true rfl) (lv2 := [(3, .int (x3 + 1)), (0, .ref a0)]) rfl ?_
    refine a_goto 39 dX11_unlike_60 (by decide) ?_
    exact a_lv (lv2 := [(0, .ref a0), (3, .int (x3 + 1))]) (fa_cons rfl (fa_cons rfl fa_nil)) (hJ _ _ _ h)
set_option maxHeartbeats 4000000 in
set_option maxRecDepth 100000 in
noncomputable def T_X11_unlike_68.{u} {α : Sort u} (J : Nat → List Value → Mem → α) (R : Int32 → Mem → α) (N : α) (n : Nat) (a0 : Nat) (x3 : Int32) (x4 : Int32) (M : Mem) : α := gd (fO M a0 11) N (if (M.2.2.1 a0 24) ≤ x4 then R x3 M else bnd (M.2.2.2.2 a0 6) N (fun r4 => bnd (M.2.2.2.2 a0 40) N (fun r6 => gd (fA M r6 1 x4) N (gd (fA M r4 1 (M.2.2.1 r6 (x4.toNatClampNeg))) N (if (M.2.2.1 r4 ((M.2.2.1 r6 (x4.toNatClampNeg)).toNatClampNeg)) = (-1) then J 68 [.ref a0, .int (x3 + 1), .int (x4 + 1)] (wI M r4 ((M.2.2.1 r6 (x4.toNatClampNeg)).toNatClampNeg) 0) else J 68 [.ref a0, .int x3, .int (x4 + 1)] M)))))
set_option maxHeartbeats 4000000 in
set_option maxRecDepth 100000 in
theorem n_X11_unlike_68.{u, v} {α : Sort u} {β : Sort v} (h : α → β) (J : Nat → List Value → Mem → α) (R : Int32 → Mem → α) (N : α) (n : Nat) (a0 : Nat) (x3 : Int32) (x4 : Int32) (M : Mem) : h (T_X11_unlike_68 J R N n a0 x3 x4 M) = T_X11_unlike_68 (fun c l M => h (J c l M)) (fun v M => h (R v M)) (h N) n a0 x3 x4 M := by
  simp only [T_X11_unlike_68, nat_ite h, nat_gd h, nat_bnd h, nat_bnd2 h]
set_option maxHeartbeats 4000000 in
set_option maxRecDepth 100000 in
theorem w_X11_unlike_68 {X : Nat × (Nat → Int32)} {al : Bool} {n : Nat} {Q : Option Value → Mem → Prop} {J : Nat → List Value → Mem → Prop} (hJ : ∀ c l M, J c l M → PW_X11_unlike X al n Q c l M) {R : Int32 → Mem → Prop} (hR : ∀ v M, R v M → Q (some (.int v)) M) {a0 : Nat} {x3 : Int32} {x4 : Int32} {M : Mem} (h : T_X11_unlike_68 J R False n a0 x3 x4 M) : AW X (RX11, cX11_unlike, 5, (some .int), false, al, n) 0 0 68 [(0, .ref a0), (3, .int x3), (4, .int x4)] [] M Q := by
  unfold T_X11_unlike_68 at h
  refine a_iload dX11_unlike_68 rfl ?_
  refine a_aload_n dX11_unlike_70 rfl rfl ?_
  obtain ⟨⟨ga1, gs2⟩, h⟩ := gd_t h
  refine a_get (v := .int (M.2.2.1 a0 24)) dX11_unlike_71 fl_11_151 ga1 gs2 rfl ?_
  refine a_icmp_ge 118 dX11_unlike_74 (by decide) (fun c3 => ?_) (fun c3 => ?_)
  · replace h := ite_t c3 h
    refine a_iload_n dX11_unlike_118 rfl rfl ?_
    exact a_iret dX11_unlike_119 rfl (hR _ _ h)
  · replace h := ite_f c3 h
    refine a_aload_n dX11_unlike_77 rfl rfl ?_
    obtain ⟨r4, e5, h⟩ := bnd_t h
    refine a_get (v := .ref r4) dX11_unlike_78 fl_11_29 ga1 gs2 (gvR e5 rfl) ?_
    refine a_aload_n dX11_unlike_81 rfl rfl ?_
    obtain ⟨r6, e7, h⟩ := bnd_t h
    refine a_get (v := .ref r6) dX11_unlike_82 fl_11_87 ga1 gs2 (gvR e7 rfl) ?_
    refine a_iload dX11_unlike_85 rfl ?_
    obtain ⟨⟨ga8, gn9, gs10, gi11⟩, h⟩ := gd_t h
    refine a_iaload dX11_unlike_87 ga8 gs10 gi11 ?_
    obtain ⟨⟨ga12, gn13, gs14, gi15⟩, h⟩ := gd_t h
    refine a_iaload dX11_unlike_88 ga12 gs14 gi15 ?_
    refine a_iconst (v := -1) dX11_unlike_89 (by decide) ?_
    refine a_icmp_eq 96 dX11_unlike_90 (by decide) (fun c16 => ?_) (fun c16 => ?_)
    · replace h := ite_t c16 h
      refine a_aload_n dX11_unlike_96 rfl rfl ?_
      refine a_get (v := .ref r4) dX11_unlike_97 fl_11_29 ga1 gs2 (gvR e5 rfl) ?_
      refine a_aload_n dX11_unlike_100 rfl rfl ?_
      refine a_get (v := .ref r6) dX11_unlike_101 fl_11_87 ga1 gs2 (gvR e7 rfl) ?_
      refine a_iload dX11_unlike_104 rfl ?_
      refine a_iaload dX11_unlike_106 ga8 gs10 gi11 ?_
      refine a_iconst (v := 0) dX11_unlike_107 (by decide) ?_
      refine a_iastore dX11_unlike_108 ga12 gs14 gi15 ?_
      refine a_iinc (v := (x3 + 1)) dX11_unlike_109 rfl (by first | rfl | decide) (Nat.le_of_ble_eq_true rfl) (lv2 := [(3, .int (x3 + 1)), (0, .ref a0), (4, .int x4)]) rfl ?_
      refine a_iinc (v := (x4 + 1)) dX11_unlike_112 rfl (by first | rfl | decide) (Nat.le_of_ble_eq_true rfl) (lv2 := [(4, .int (x4 + 1)), (3, .int (x3 + 1)), (0, .ref a0)]) rfl ?_
      refine a_goto 68 dX11_unlike_115 (by decide) ?_
      exact a_lv (lv2 := [(0, .ref a0), (3, .int (x3 + 1)), (4, .int (x4 + 1))]) (fa_cons rfl (fa_cons rfl (fa_cons rfl fa_nil))) (hJ _ _ _ h)
    · replace h := ite_f c16 h
      refine a_goto 112 dX11_unlike_93 (by decide) ?_
      refine a_iinc (v := (x4 + 1)) dX11_unlike_112 rfl (by first | rfl | decide) (Nat.le_of_ble_eq_true rfl) (lv2 := [(4, .int (x4 + 1)), (0, .ref a0), (3, .int x3)]) rfl ?_
      refine a_goto 68 dX11_unlike_115 (by decide) ?_
      exact a_lv (lv2 := [(0, .ref a0), (3, .int x3), (4, .int (x4 + 1))]) (fa_cons rfl (fa_cons rfl (fa_cons rfl fa_nil))) (hJ _ _ _ h)
set_option maxHeartbeats 4000000 in
set_option maxRecDepth 100000 in
noncomputable def st_X11_unlike (n : Nat) (s : Sg) : Option (Sg ⊕ (Int32 × Mem)) := if s.1 = 0 then vR s.2.1 none (fun a0 t => vI t none (fun x1 t => vE t none (T_X11_unlike_0 (fun c l M => some (.inl (c, l, M))) (fun v M => some (.inr (v, M))) none n a0 x1 s.2.2))) else if s.1 = 7 then vR s.2.1 none (fun a0 t => vI t none (fun x1 t => vI t none (fun x2 t => vI t none (fun x3 t => vE t none (T_X11_unlike_7 (fun c l M => some (.inl (c, l, M))) (fun v M => some (.inr (v, M))) none n a0 x1 x2 x3 s.2.2))))) else if s.1 = 39 then vR s.2.1 none (fun a0 t => vI t none (fun x3 t => vE t none (T_X11_unlike_39 (fun c l M => some (.inl (c, l, M))) (fun v M => some (.inr (v, M))) none n a0 x3 s.2.2))) else if s.1 = 68 then vR s.2.1 none (fun a0 t => vI t none (fun x3 t => vI t none (fun x4 t => vE t none (T_X11_unlike_68 (fun c l M => some (.inl (c, l, M))) (fun v M => some (.inr (v, M))) none n a0 x3 x4 s.2.2)))) else none
noncomputable abbrev g_X11_unlike_0 (n : Nat) (a0 : Nat) (x1 : Int32) (M : Mem) : Option (Int32 × Mem) := lp (st_X11_unlike n) (0, [.ref a0, .int x1], M)
set_option maxHeartbeats 4000000 in
set_option maxRecDepth 100000 in
theorem ge_X11_unlike_0 (n : Nat) (a0 : Nat) (x1 : Int32) (M : Mem) : g_X11_unlike_0 n a0 x1 M = T_X11_unlike_0 (fun c l M => lp (st_X11_unlike n) (c, l, M)) (fun v M => some (v, M)) none n a0 x1 M := (lp_eq _ _).trans (n_X11_unlike_0 (lpK (st_X11_unlike n)) (fun c l M => some (.inl (c, l, M))) (fun v M => some (.inr (v, M))) none n a0 x1 M)
noncomputable abbrev g_X11_unlike_7 (n : Nat) (a0 : Nat) (x1 : Int32) (x2 : Int32) (x3 : Int32) (M : Mem) : Option (Int32 × Mem) := lp (st_X11_unlike n) (7, [.ref a0, .int x1, .int x2, .int x3], M)
set_option maxHeartbeats 4000000 in
set_option maxRecDepth 100000 in
theorem ge_X11_unlike_7 (n : Nat) (a0 : Nat) (x1 : Int32) (x2 : Int32) (x3 : Int32) (M : Mem) : g_X11_unlike_7 n a0 x1 x2 x3 M = T_X11_unlike_7 (fun c l M => lp (st_X11_unlike n) (c, l, M)) (fun v M => some (v, M)) none n a0 x1 x2 x3 M := (lp_eq _ _).trans (n_X11_unlike_7 (lpK (st_X11_unlike n)) (fun c l M => some (.inl (c, l, M))) (fun v M => some (.inr (v, M))) none n a0 x1 x2 x3 M)
noncomputable abbrev g_X11_unlike_39 (n : Nat) (a0 : Nat) (x3 : Int32) (M : Mem) : Option (Int32 × Mem) := lp (st_X11_unlike n) (39, [.ref a0, .int x3], M)
set_option maxHeartbeats 4000000 in
set_option maxRecDepth 100000 in
theorem ge_X11_unlike_39 (n : Nat) (a0 : Nat) (x3 : Int32) (M : Mem) : g_X11_unlike_39 n a0 x3 M = T_X11_unlike_39 (fun c l M => lp (st_X11_unlike n) (c, l, M)) (fun v M => some (v, M)) none n a0 x3 M := (lp_eq _ _).trans (n_X11_unlike_39 (lpK (st_X11_unlike n)) (fun c l M => some (.inl (c, l, M))) (fun v M => some (.inr (v, M))) none n a0 x3 M)
noncomputable abbrev g_X11_unlike_68 (n : Nat) (a0 : Nat) (x3 : Int32) (x4 : Int32) (M : Mem) : Option (Int32 × Mem) := lp (st_X11_unlike n) (68, [.ref a0, .int x3, .int x4], M)
set_option maxHeartbeats 4000000 in
set_option maxRecDepth 100000 in
theorem ge_X11_unlike_68 (n : Nat) (a0 : Nat) (x3 : Int32) (x4 : Int32) (M : Mem) : g_X11_unlike_68 n a0 x3 x4 M = T_X11_unlike_68 (fun c l M => lp (st_X11_unlike n) (c, l, M)) (fun v M => some (v, M)) none n a0 x3 x4 M := (lp_eq _ _).trans (n_X11_unlike_68 (lpK (st_X11_unlike n)) (fun c l M => some (.inl (c, l, M))) (fun v M => some (.inr (v, M))) none n a0 x3 x4 M)
noncomputable def b_X11_unlike (n : Nat) (a0 : Nat) (x1 : Int32) (M : Mem) : Option (Int32 × Mem) := g_X11_unlike_0 n a0 x1 M
set_option maxHeartbeats 4000000 in
set_option maxRecDepth 100000 in
theorem sb_X11_unlike {X : Nat × (Nat → Int32)} {al : Bool} {n : Nat} {a0 : Nat} {x1 : Int32} {M : Mem} {v : Int32} {M1 : Mem} (h : b_X11_unlike n a0 x1 M = some (v, M1)) : AE yX11_unlike cX11_unlike 5 (some .int) al n X [.ref a0, .int x1] M (some (.int v)) M1 := by
  refine AM.of false (by decide +kernel) (by intro h; cases h) (Nat.le_of_ble_eq_true rfl) ?_
  refine lp_snd (P := fun s r => PW_X11_unlike X al n (fun v M2 => v = (some (.int r.1)) ∧ M2 = r.2) s.1 s.2.1 s.2.2) ?_ h
  clear h
  rintro ⟨c, l, M⟩ r h
  unfold st_X11_unlike at h
  rcases ite_p h with ⟨e, h⟩ | ⟨e, h⟩
  · replace e : c = 0 := e
    subst e
    obtain ⟨a0, tt0, e, h⟩ := vR_p id h
    replace e : l = _ := e
    subst e
    obtain ⟨x1, tt1, e, h⟩ := vI_p id h
    replace e : tt0 = _ := e
    subst e
    obtain ⟨e, h⟩ := vE_p id h
    replace e : tt1 = [] := e
    subst e
    exact w_X11_unlike_0 (J := fun c l M => PW_X11_unlike X al n (fun v M2 => v = (some (.int r.1)) ∧ M2 = r.2) c l M) (R := fun v M => (v, M) = r) (fun _ _ _ h => h) (fun v M h => by cases h; exact ⟨rfl, rfl⟩) ((n_X11_unlike_0 (lpP (fun (s : Sg) (r : Int32 × Mem) => PW_X11_unlike X al n (fun v M2 => v = (some (.int r.1)) ∧ M2 = r.2) s.1 s.2.1 s.2.2) r) (fun c l M => some (.inl (c, l, M))) (fun v M => some (.inr (v, M))) none n a0 x1 M).mp h)
  rcases ite_p h with ⟨e, h⟩ | ⟨e, h⟩
  · replace e : c = 7 := e
    subst e
    obtain ⟨a0, tt0, e, h⟩ := vR_p id h
    replace e : l = _ := e
    subst e
    obtain ⟨x1, tt1, e, h⟩ := vI_p id h
    replace e : tt0 = _ := e
    subst e
    obtain ⟨x2, tt2, e, h⟩ := vI_p id h
    replace e : tt1 = _ := e
    subst e
    obtain ⟨x3, tt3, e, h⟩ := vI_p id h
    replace e : tt2 = _ := e
    subst e
    obtain ⟨e, h⟩ := vE_p id h
    replace e : tt3 = [] := e
    subst e
    exact w_X11_unlike_7 (J := fun c l M => PW_X11_unlike X al n (fun v M2 => v = (some (.int r.1)) ∧ M2 = r.2) c l M) (R := fun v M => (v, M) = r) (fun _ _ _ h => h) (fun v M h => by cases h; exact ⟨rfl, rfl⟩) ((n_X11_unlike_7 (lpP (fun (s : Sg) (r : Int32 × Mem) => PW_X11_unlike X al n (fun v M2 => v = (some (.int r.1)) ∧ M2 = r.2) s.1 s.2.1 s.2.2) r) (fun c l M => some (.inl (c, l, M))) (fun v M => some (.inr (v, M))) none n a0 x1 x2 x3 M).mp h)
  rcases ite_p h with ⟨e, h⟩ | ⟨e, h⟩
  · replace e : c = 39 := e
    subst e
    obtain ⟨a0, tt0, e, h⟩ := vR_p id h
    replace e : l = _ := e
    subst e
    obtain ⟨x3, tt1, e, h⟩ := vI_p id h
    replace e : tt0 = _ := e
    subst e
    obtain ⟨e, h⟩ := vE_p id h
    replace e : tt1 = [] := e
    subst e
    exact w_X11_unlike_39 (J := fun c l M => PW_X11_unlike X al n (fun v M2 => v = (some (.int r.1)) ∧ M2 = r.2) c l M) (R := fun v M => (v, M) = r) (fun _ _ _ h => h) (fun v M h => by cases h; exact ⟨rfl, rfl⟩) ((n_X11_unlike_39 (lpP (fun (s : Sg) (r : Int32 × Mem) => PW_X11_unlike X al n (fun v M2 => v = (some (.int r.1)) ∧ M2 = r.2) s.1 s.2.1 s.2.2) r) (fun c l M => some (.inl (c, l, M))) (fun v M => some (.inr (v, M))) none n a0 x3 M).mp h)
  rcases ite_p h with ⟨e, h⟩ | ⟨e, h⟩
  · replace e : c = 68 := e
    subst e
    obtain ⟨a0, tt0, e, h⟩ := vR_p id h
    replace e : l = _ := e
    subst e
    obtain ⟨x3, tt1, e, h⟩ := vI_p id h
    replace e : tt0 = _ := e
    subst e
    obtain ⟨x4, tt2, e, h⟩ := vI_p id h
    replace e : tt1 = _ := e
    subst e
    obtain ⟨e, h⟩ := vE_p id h
    replace e : tt2 = [] := e
    subst e
    exact w_X11_unlike_68 (J := fun c l M => PW_X11_unlike X al n (fun v M2 => v = (some (.int r.1)) ∧ M2 = r.2) c l M) (R := fun v M => (v, M) = r) (fun _ _ _ h => h) (fun v M h => by cases h; exact ⟨rfl, rfl⟩) ((n_X11_unlike_68 (lpP (fun (s : Sg) (r : Int32 × Mem) => PW_X11_unlike X al n (fun v M2 => v = (some (.int r.1)) ∧ M2 = r.2) s.1 s.2.1 s.2.2) r) (fun c l M => some (.inl (c, l, M))) (fun v M => some (.inr (v, M))) none n a0 x3 x4 M).mp h)
  · exact h.elim

noncomputable abbrev f_X11_unlike := b_X11_unlike
theorem s_X11_unlike {X : Nat × (Nat → Int32)} {al : Bool} {n : Nat} {a0 : Nat} {x1 : Int32} {M : Mem} {v : Int32} {M1 : Mem} (h : f_X11_unlike n a0 x1 M = some (v, M1)) : AE yX11_unlike cX11_unlike 5 (some .int) al n X [.ref a0, .int x1] M (some (.int v)) M1 := sb_X11_unlike h
