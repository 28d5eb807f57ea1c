/-! METHODS AS FUNCTIONS, written by wip/gen/shallow.py -/
def ix_X11_canProve (c : Nat) : List Nat := if c = 0 then [0, 1, 2, 3] else if c = 32 then [0, 1, 2, 3, 4] else if c = 224 then [0, 1, 2, 3, 4, 6, 7] else if c = 272 then [0, 2, 3, 6, 7, 8] else if c = 321 then [0, 2, 3, 6, 7, 8] else []
def PW_X11_canProve (X : Nat × (Nat → Int32)) (al : Bool) (n : Nat) (Q : Option Value → Mem → Prop) (c : Nat) (l : List Value) (M : Mem) : Prop := AW X (RX11, cX11_canProve, 9, (some .boolean), false, al, n) 0 0 c (List.zip (ix_X11_canProve c) l) (l.drop (ix_X11_canProve c).length) M Q
set_option maxHeartbeats 4000000 in
set_option maxRecDepth 100000 in
noncomputable def T_X11_canProve_0.{u} {α : Sort u} (J : Nat → List Value → Mem → α) (R : Int32 → Mem → α) (N : α) (cl : Nat → List Value → Mem → Option (Int32 × Mem)) (n : Nat) (a0 : Nat) (x1 : Int32) (x2 : Int32) (x3 : Int32) (M : Mem) : α := gd (fO M a0 11) N (bnd2 (cal n (fun n => f_X11_isHad n a0 x1 x2 x3 M)) N (fun v3 M4 => if v3 = 0 then gd (fO M4 a0 11) N (bnd2 (cal n (fun n => f_X11_formula n a0 8 (-1) (-1) M4)) N (fun v11 M12 => gd (fO M12 a0 11) N (bnd2 (cal n (fun n => f_X11_isHad n a0 x1 x2 v11 M12)) N (fun v18 M19 => if v18 = 0 then J 32 [.ref a0, .int x1, .int x2, .int x3, .int x1] M19 else R 1 M19)))) else R 1 M4))
set_option maxHeartbeats 4000000 in
set_option maxRecDepth 100000 in
theorem n_X11_canProve_0.{u, v} {α : Sort u} {β : Sort v} (h : α → β) (J : Nat → List Value → Mem → α) (R : Int32 → Mem → α) (N : α) (cl : Nat → List Value → Mem → Option (Int32 × Mem)) (n : Nat) (a0 : Nat) (x1 : Int32) (x2 : Int32) (x3 : Int32) (M : Mem) : h (T_X11_canProve_0 J R N cl n a0 x1 x2 x3 M) = T_X11_canProve_0 (fun c l M => h (J c l M)) (fun v M => h (R v M)) (h N) cl n a0 x1 x2 x3 M := by
  simp only [T_X11_canProve_0, nat_ite h, nat_gd h, nat_bnd h, nat_bnd2 h]
set_option maxHeartbeats 4000000 in
set_option maxRecDepth 100000 in
theorem w_X11_canProve_0 {X : Nat × (Nat → Int32)} {al : Bool} {n : Nat} {Q : Option Value → Mem → Prop} {J : Nat → List Value → Mem → Prop} (hJ : ∀ c l M, J c l M → PW_X11_canProve X al n Q c l M) {R : Int32 → Mem → Prop} (hR : ∀ v M, R v M → Q (some (.int v)) M) {cl : Nat → List Value → Mem → Option (Int32 × Mem)} (hc_X11_canProve : ∀ {a0 : Nat} {x1 : Int32} {x2 : Int32} {x3 : Int32} {M : Mem} {v : Int32} {M1 : Mem}, cl 0 [.ref a0, .int x1, .int x2, .int x3] M = some (v, M1) → ∃ k, n = k + 1 ∧ AE yX11_canProve cX11_canProve 9 (some .boolean) al k X [.ref a0, .int x1, .int x2, .int x3] M (some (.int v)) M1) (hc_X11_byOne : ∀ {a0 : Nat} {x1 : Int32} {x2 : Int32} {x3 : Int32} {M : Mem} {v : Int32} {M1 : Mem}, cl 1 [.ref a0, .int x1, .int x2, .int x3] M = some (v, M1) → ∃ k, n = k + 1 ∧ AE yX11_byOne cX11_byOne 9 (some .boolean) al k X [.ref a0, .int x1, .int x2, .int x3] M (some (.int v)) M1) {a0 : Nat} {x1 : Int32} {x2 : Int32} {x3 : Int32} {M : Mem} (h : T_X11_canProve_0 J R False cl n a0 x1 x2 x3 M) : AW X (RX11, cX11_canProve, 9, (some .boolean), false, al, n) 0 0 0 [(0, .ref a0), (1, .int x1), (2, .int x2), (3, .int x3)] [] M Q := by
  unfold T_X11_canProve_0 at h
  refine a_aload_n dX11_canProve_0 rfl rfl ?_
  refine a_iload_n dX11_canProve_1 rfl rfl ?_
  refine a_iload_n dX11_canProve_2 rfl rfl ?_
  refine a_iload_n dX11_canProve_3 rfl rfl ?_
  obtain ⟨⟨ga1, gs2⟩, h⟩ := gd_t h
  obtain ⟨v3, M4, e5, h⟩ := bnd2_t h
  obtain ⟨n6, en7, e5⟩ := cal_t e5
  refine e_callV (As := [.int x1, .int x2, .int x3]) (st := []) (a := a0) (ci := 11) false dX11_canProve_4 mw_X11_isHad (Or.inl ⟨rfl, ml_X11_438⟩) im_X11_isHad se_X11_isHad (by decide) ga1 gs2 rfl (Nat.le_of_ble_eq_true rfl) en7 (s_X11_isHad e5) ?_
  refine a_if_ne 27 dX11_canProve_7 (by decide) (fun c8 => ?_) (fun c8 => ?_)
  · replace h := ite_f c8 h
    refine a_iconst (v := 1) dX11_canProve_27 (by decide) ?_
    exact a_zret dX11_canProve_28 rfl rfl (hR _ _ h)
  · replace h := ite_t c8 h
    refine a_aload_n dX11_canProve_10 rfl rfl ?_
    refine a_iload_n dX11_canProve_11 rfl rfl ?_
    refine a_iload_n dX11_canProve_12 rfl rfl ?_
    refine a_aload_n dX11_canProve_13 rfl rfl ?_
    refine a_bipush (v := 8) dX11_canProve_14 (by decide) ?_
    refine a_iconst (v := -1) dX11_canProve_16 (by decide) ?_
    refine a_iconst (v := -1) dX11_canProve_17 (by decide) ?_
    obtain ⟨⟨ga9, gs10⟩, h⟩ := gd_t h
    obtain ⟨v11, M12, e13, h⟩ := bnd2_t h
    obtain ⟨n14, en15, e13⟩ := cal_t e13
    refine e_callV (As := [.int 8, .int (-1), .int (-1)]) (st := [.int x2, .int x1, .ref a0]) (a := a0) (ci := 11) false dX11_canProve_18 mw_X11_formula (Or.inl ⟨rfl, ml_X11_130⟩) im_X11_formula se_X11_formula (by decide) ga9 gs10 rfl (Nat.le_of_ble_eq_true rfl) en15 (s_X11_formula e13) ?_
    obtain ⟨⟨ga16, gs17⟩, h⟩ := gd_t h
    obtain ⟨v18, M19, e20, h⟩ := bnd2_t h
    obtain ⟨n21, en22, e20⟩ := cal_t e20
    refine e_callV (As := [.int x1, .int x2, .int v11]) (st := []) (a := a0) (ci := 11) false dX11_canProve_21 mw_X11_isHad (Or.inl ⟨rfl, ml_X11_438⟩) im_X11_isHad se_X11_isHad (by decide) ga16 gs17 rfl (Nat.le_of_ble_eq_true rfl) en22 (s_X11_isHad e20) ?_
    refine a_if_eq 29 dX11_canProve_24 (by decide) (fun c23 => ?_) (fun c23 => ?_)
    · replace h := ite_t c23 h
      refine a_iload_n dX11_canProve_29 rfl rfl ?_
      refine a_istore dX11_canProve_30 (Nat.le_of_ble_eq_true rfl) (lv2 := [(4, .int x1), (0, .ref a0), (1, .int x1), (2, .int x2), (3, .int x3)]) rfl ?_
      exact a_lv (lv2 := [(0, .ref a0), (1, .int x1), (2, .int x2), (3, .int x3), (4, .int x1)]) (fa_cons rfl (fa_cons rfl (fa_cons rfl (fa_cons rfl (fa_cons rfl fa_nil))))) (hJ _ _ _ h)
    · replace h := ite_f c23 h
      refine a_iconst (v := 1) dX11_canProve_27 (by decide) ?_
      exact a_zret dX11_canProve_28 rfl rfl (hR _ _ h)
set_option maxHeartbeats 4000000 in
set_option maxRecDepth 100000 in
noncomputable def T_X11_canProve_32.{u} {α : Sort u} (J : Nat → List Value → Mem → α) (R : Int32 → Mem → α) (N : α) (cl : Nat → List Value → Mem → Option (Int32 × Mem)) (n : Nat) (a0 : Nat) (x1 : Int32) (x2 : Int32) (x3 : Int32) (x4 : Int32) (M : Mem) : α := if x2 ≤ x4 then gd (fO M a0 11) N (bnd (M.2.2.2.2 a0 1) N (fun r4 => gd (fA M r4 1 x3) N (if (M.2.2.1 r4 (x3.toNatClampNeg)) = 9 then bnd2 (cal n (fun n => f_X11_copiesHad n a0 x1 x2 (-1) M)) N (fun v79 M80 => gd (fO M80 a0 11) N (bnd (M80.2.2.2.2 a0 2) N (fun r86 => gd (fA M80 r86 1 x3) N (bnd2 (cal n (fun n => f_X11_withHad n a0 x2 v79 (M80.2.2.1 r86 (x3.toNatClampNeg)) M80)) N (fun v92 M93 => gd (fO M93 a0 11) N (bnd (M93.2.2.2.2 a0 3) N (fun r99 => gd (fA M93 r99 1 x3) N (bnd2 (cl 0 [.ref a0, .int x2, .int v92, .int (M93.2.2.1 r99 (x3.toNatClampNeg))] M93) N (fun v105 M106 => gd (narrow .boolean (.int v105) = .int v105) N (R v105 M106)))))))))) else if (M.2.2.1 r4 (x3.toNatClampNeg)) = 10 then bnd (M.2.2.2.2 a0 2) N (fun r53 => gd (fA M r53 1 x3) N (bnd2 (cl 0 [.ref a0, .int x1, .int x2, .int (M.2.2.1 r53 (x3.toNatClampNeg))] M) N (fun v59 M60 => if v59 = 0 then R 0 M60 else gd (fO M60 a0 11) N (bnd (M60.2.2.2.2 a0 3) N (fun r67 => gd (fA M60 r67 1 x3) N (bnd2 (cl 0 [.ref a0, .int x1, .int x2, .int (M60.2.2.1 r67 (x3.toNatClampNeg))] M60) N (fun v73 M74 => if v73 = 0 then R 0 M74 else R 1 M74))))))) else if (M.2.2.1 r4 (x3.toNatClampNeg)) = 11 then bnd (M.2.2.2.2 a0 2) N (fun r19 => gd (fA M r19 1 x3) N (bnd2 (cl 0 [.ref a0, .int x1, .int x2, .int (M.2.2.1 r19 (x3.toNatClampNeg))] M) N (fun v25 M26 => if v25 = 0 then gd (fO M26 a0 11) N (bnd (M26.2.2.2.2 a0 3) N (fun r33 => gd (fA M26 r33 1 x3) N (bnd2 (cl 0 [.ref a0, .int x1, .int x2, .int (M26.2.2.1 r33 (x3.toNatClampNeg))] M26) N (fun v39 M40 => if v39 = 0 then gd (fO M40 a0 11) N (bnd2 (cl 1 [.ref a0, .int x1, .int x2, .int x3] M40) N (fun v47 M48 => gd (narrow .boolean (.int v47) = .int v47) N (R v47 M48))) else R 1 M40)))) else R 1 M26))) else bnd2 (cl 1 [.ref a0, .int x1, .int x2, .int x3] M) N (fun v13 M14 => gd (narrow .boolean (.int v13) = .int v13) N (R v13 M14))))) else gd (fO M a0 11) N (bnd (M.2.2.2.2 a0 60) N (fun r113 => gd (fA M r113 1 x4) N (bnd (M.2.2.2.2 a0 2) N (fun r119 => gd (fA M r119 1 (M.2.2.1 r113 (x4.toNatClampNeg))) N (bnd (M.2.2.2.2 a0 3) N (fun r125 => gd (fA M r125 1 (M.2.2.1 r113 (x4.toNatClampNeg))) N (bnd (M.2.2.2.2 a0 1) N (fun r131 => gd (fA M r131 1 (M.2.2.1 r113 (x4.toNatClampNeg))) N (if (M.2.2.1 r131 ((M.2.2.1 r113 (x4.toNatClampNeg)).toNatClampNeg)) = 10 then bnd2 (cal n (fun n => f_X11_copiesHad n a0 x1 x2 x4 M)) N (fun v193 M194 => gd (fO M194 a0 11) N (bnd2 (cal n (fun n => f_X11_withHad n a0 x2 v193 (M.2.2.1 r119 ((M.2.2.1 r113 (x4.toNatClampNeg)).toNatClampNeg)) M194)) N (fun v200 M201 => gd (fO M201 a0 11) N (bnd2 (cal n (fun n => f_X11_withHad n a0 x2 v200 (M.2.2.1 r125 ((M.2.2.1 r113 (x4.toNatClampNeg)).toNatClampNeg)) M201)) N (fun v207 M208 => gd (fO M208 a0 11) N (bnd2 (cl 0 [.ref a0, .int x2, .int v207, .int x3] M208) N (fun v214 M215 => gd (narrow .boolean (.int v214) = .int v214) N (R v214 M215)))))))) else if (M.2.2.1 r131 ((M.2.2.1 r113 (x4.toNatClampNeg)).toNatClampNeg)) = 11 then bnd2 (cal n (fun n => f_X11_copiesHad n a0 x1 x2 x4 M)) N (fun v151 M152 => gd (fO M152 a0 11) N (bnd2 (cal n (fun n => f_X11_withHad n a0 x2 v151 (M.2.2.1 r119 ((M.2.2.1 r113 (x4.toNatClampNeg)).toNatClampNeg)) M152)) N (fun v158 M159 => gd (fO M159 a0 11) N (bnd2 (cl 0 [.ref a0, .int x2, .int v158, .int x3] M159) N (fun v165 M166 => if v165 = 0 then R 0 M166 else gd (fO M166 a0 11) N (bnd2 (cal n (fun n => f_X11_copiesHad n a0 x1 x2 x4 M166)) N (fun v173 M174 => gd (fO M174 a0 11) N (bnd2 (cal n (fun n => f_X11_withHad n a0 x2 v173 (M.2.2.1 r125 ((M.2.2.1 r113 (x4.toNatClampNeg)).toNatClampNeg)) M174)) N (fun v180 M181 => gd (fO M181 a0 11) N (bnd2 (cl 0 [.ref a0, .int x2, .int v180, .int x3] M181) N (fun v187 M188 => gd (narrow .boolean (.int v187) = .int v187) N (R v187 M188)))))))))))) else if (M.2.2.1 r131 ((M.2.2.1 r113 (x4.toNatClampNeg)).toNatClampNeg)) = 9 then gd (fA M r131 1 (M.2.2.1 r119 ((M.2.2.1 r113 (x4.toNatClampNeg)).toNatClampNeg))) N (if 8 ≤ (M.2.2.1 r131 ((M.2.2.1 r119 ((M.2.2.1 r113 (x4.toNatClampNeg)).toNatClampNeg)).toNatClampNeg)) then J 224 [.ref a0, .int x1, .int x2, .int x3, .int x4, .int (M.2.2.1 r119 ((M.2.2.1 r113 (x4.toNatClampNeg)).toNatClampNeg)), .int (M.2.2.1 r125 ((M.2.2.1 r113 (x4.toNatClampNeg)).toNatClampNeg))] M else bnd2 (cal n (fun n => f_X11_isHad n a0 x1 x2 (M.2.2.1 r119 ((M.2.2.1 r113 (x4.toNatClampNeg)).toNatClampNeg)) M)) N (fun v145 M146 => if v145 = 0 then J 32 [.ref a0, .int x1, .int x2, .int x3, .int (x4 + 1)] M146 else J 224 [.ref a0, .int x1, .int x2, .int x3, .int x4, .int (M.2.2.1 r119 ((M.2.2.1 r113 (x4.toNatClampNeg)).toNatClampNeg)), .int (M.2.2.1 r125 ((M.2.2.1 r113 (x4.toNatClampNeg)).toNatClampNeg))] M146)) else J 32 [.ref a0, .int x1, .int x2, .int x3, .int (x4 + 1)] M)))))))))
set_option maxHeartbeats 4000000 in
set_option maxRecDepth 100000 in
theorem n_X11_canProve_32.{u, v} {α : Sort u} {β : Sort v} (h : α → β) (J : Nat → List Value → Mem → α) (R : Int32 → Mem → α) (N : α) (cl : Nat → List Value → Mem → Option (Int32 × Mem)) (n : Nat) (a0 : Nat) (x1 : Int32) (x2 : Int32) (x3 : Int32) (x4 : Int32) (M : Mem) : h (T_X11_canProve_32 J R N cl n a0 x1 x2 x3 x4 M) = T_X11_canProve_32 (fun c l M => h (J c l M)) (fun v M => h (R v M)) (h N) cl n a0 x1 x2 x3 x4 M := by
  simp only [T_X11_canProve_32, nat_ite h, nat_gd h, nat_bnd h, nat_bnd2 h]
set_option maxHeartbeats 4000000 in
set_option maxRecDepth 100000 in
theorem w_X11_canProve_32 {X : Nat × (Nat → Int32)} {al : Bool} {n : Nat} {Q : Option Value → Mem → Prop} {J : Nat → List Value → Mem → Prop} (hJ : ∀ c l M, J c l M → PW_X11_canProve X al n Q c l M) {R : Int32 → Mem → Prop} (hR : ∀ v M, R v M → Q (some (.int v)) M) {cl : Nat → List Value → Mem → Option (Int32 × Mem)} (hc_X11_canProve : ∀ {a0 : Nat} {x1 : Int32} {x2 : Int32} {x3 : Int32} {M : Mem} {v : Int32} {M1 : Mem}, cl 0 [.ref a0, .int x1, .int x2, .int x3] M = some (v, M1) → ∃ k, n = k + 1 ∧ AE yX11_canProve cX11_canProve 9 (some .boolean) al k X [.ref a0, .int x1, .int x2, .int x3] M (some (.int v)) M1) (hc_X11_byOne : ∀ {a0 : Nat} {x1 : Int32} {x2 : Int32} {x3 : Int32} {M : Mem} {v : Int32} {M1 : Mem}, cl 1 [.ref a0, .int x1, .int x2, .int x3] M = some (v, M1) → ∃ k, n = k + 1 ∧ AE yX11_byOne cX11_byOne 9 (some .boolean) al k X [.ref a0, .int x1, .int x2, .int x3] M (some (.int v)) M1) {a0 : Nat} {x1 : Int32} {x2 : Int32} {x3 : Int32} {x4 : Int32} {M : Mem} (h : T_X11_canProve_32 J R False cl n a0 x1 x2 x3 x4 M) : AW X (RX11, cX11_canProve, 9, (some .boolean), false, al, n) 0 0 32 [(0, .ref a0), (1, .int x1), (2, .int x2), (3, .int x3), (4, .int x4)] [] M Q := by
  unfold T_X11_canProve_32 at h
  refine a_iload dX11_canProve_32 rfl ?_
  refine a_iload_n dX11_canProve_34 rfl rfl ?_
  refine a_icmp_ge 396 dX11_canProve_35 (by decide) (fun c1 => ?_) (fun c1 => ?_)
  · replace h := ite_t c1 h
    refine a_aload_n dX11_canProve_396 rfl rfl ?_
    obtain ⟨⟨ga2, gs3⟩, h⟩ := gd_t h
    obtain ⟨r4, e5, h⟩ := bnd_t h
    refine a_get (v := .ref r4) dX11_canProve_397 fl_11_13 ga2 gs3 (gvR e5 rfl) ?_
    refine a_iload_n dX11_canProve_400 rfl rfl ?_
    obtain ⟨⟨ga6, gn7, gs8, gi9⟩, h⟩ := gd_t h
    refine a_iaload dX11_canProve_401 ga6 gs8 gi9 ?_
    refine a_bipush (v := 9) dX11_canProve_402 (by decide) ?_
    refine a_icmp_ne 441 dX11_canProve_404 (by decide) (fun c10 => ?_) (fun c10 => ?_)
    · replace h := ite_f c10 h
      refine a_aload_n dX11_canProve_441 rfl rfl ?_
      refine a_get (v := .ref r4) dX11_canProve_442 fl_11_13 ga2 gs3 (gvR e5 rfl) ?_
      refine a_iload_n dX11_canProve_445 rfl rfl ?_
      refine a_iaload dX11_canProve_446 ga6 gs8 gi9 ?_
      refine a_bipush (v := 10) dX11_canProve_447 (by decide) ?_
      refine a_icmp_ne 488 dX11_canProve_449 (by decide) (fun c11 => ?_) (fun c11 => ?_)
      · replace h := ite_f c11 h
        refine a_aload_n dX11_canProve_488 rfl rfl ?_
        refine a_get (v := .ref r4) dX11_canProve_489 fl_11_13 ga2 gs3 (gvR e5 rfl) ?_
        refine a_iload_n dX11_canProve_492 rfl rfl ?_
        refine a_iaload dX11_canProve_493 ga6 gs8 gi9 ?_
        refine a_bipush (v := 11) dX11_canProve_494 (by decide) ?_
        refine a_icmp_ne 531 dX11_canProve_496 (by decide) (fun c12 => ?_) (fun c12 => ?_)
        · replace h := ite_f c12 h
          refine a_aload_n dX11_canProve_531 rfl rfl ?_
          refine a_iload_n dX11_canProve_532 rfl rfl ?_
          refine a_iload_n dX11_canProve_533 rfl rfl ?_
          refine a_iload_n dX11_canProve_534 rfl rfl ?_
          obtain ⟨v13, M14, e15, h⟩ := bnd2_t h
          obtain ⟨n16, en17, e15⟩ := hc_X11_byOne e15
          refine e_callV (As := [.int x1, .int x2, .int x3]) (st := []) (a := a0) (ci := 11) false dX11_canProve_535 mw_X11_byOne (Or.inl ⟨rfl, ml_X11_450⟩) im_X11_byOne se_X11_byOne (by decide) ga2 gs3 rfl (Nat.le_of_ble_eq_true rfl) en17 e15 ?_
          obtain ⟨gb18, h⟩ := gd_t h
          exact a_zret dX11_canProve_538 rfl gb18 (hR _ _ h)
        · replace h := ite_t c12 h
          refine a_aload_n dX11_canProve_499 rfl rfl ?_
          refine a_iload_n dX11_canProve_500 rfl rfl ?_
          refine a_iload_n dX11_canProve_501 rfl rfl ?_
          refine a_aload_n dX11_canProve_502 rfl rfl ?_
          obtain ⟨r19, e20, h⟩ := bnd_t h
          refine a_get (v := .ref r19) dX11_canProve_503 fl_11_17 ga2 gs3 (gvR e20 rfl) ?_
          refine a_iload_n dX11_canProve_506 rfl rfl ?_
          obtain ⟨⟨ga21, gn22, gs23, gi24⟩, h⟩ := gd_t h
          refine a_iaload dX11_canProve_507 ga21 gs23 gi24 ?_
          obtain ⟨v25, M26, e27, h⟩ := bnd2_t h
          obtain ⟨n28, en29, e27⟩ := hc_X11_canProve e27
          refine e_callV (As := [.int x1, .int x2, .int (M.2.2.1 r19 (x3.toNatClampNeg))]) (st := []) (a := a0) (ci := 11) false dX11_canProve_508 mw_X11_canProve (Or.inl ⟨rfl, ml_X11_447⟩) im_X11_canProve se_X11_canProve (by decide) ga2 gs3 rfl (Nat.le_of_ble_eq_true rfl) en29 e27 ?_
          refine a_if_ne 529 dX11_canProve_511 (by decide) (fun c30 => ?_) (fun c30 => ?_)
          · replace h := ite_f c30 h
            refine a_iconst (v := 1) dX11_canProve_529 (by decide) ?_
            exact a_zret dX11_canProve_530 rfl rfl (hR _ _ h)
          · replace h := ite_t c30 h
            refine a_aload_n dX11_canProve_514 rfl rfl ?_
            refine a_iload_n dX11_canProve_515 rfl rfl ?_
            refine a_iload_n dX11_canProve_516 rfl rfl ?_
            refine a_aload_n dX11_canProve_517 rfl rfl ?_
            obtain ⟨⟨ga31, gs32⟩, h⟩ := gd_t h
            obtain ⟨r33, e34, h⟩ := bnd_t h
            refine a_get (v := .ref r33) dX11_canProve_518 fl_11_20 ga31 gs32 (gvR e34 rfl) ?_
            refine a_iload_n dX11_canProve_521 rfl rfl ?_
            obtain ⟨⟨ga35, gn36, gs37, gi38⟩, h⟩ := gd_t h
            refine a_iaload dX11_canProve_522 ga35 gs37 gi38 ?_
            obtain ⟨v39, M40, e41, h⟩ := bnd2_t h
            obtain ⟨n42, en43, e41⟩ := hc_X11_canProve e41
            refine e_callV (As := [.int x1, .int x2, .int (M26.2.2.1 r33 (x3.toNatClampNeg))]) (st := []) (a := a0) (ci := 11) false dX11_canProve_523 mw_X11_canProve (Or.inl ⟨rfl, ml_X11_447⟩) im_X11_canProve se_X11_canProve (by decide) ga31 gs32 rfl (Nat.le_of_ble_eq_true rfl) en43 e41 ?_
            refine a_if_eq 531 dX11_canProve_526 (by decide) (fun c44 => ?_) (fun c44 => ?_)
            · replace h := ite_t c44 h
              refine a_aload_n dX11_canProve_531 rfl rfl ?_
              refine a_iload_n dX11_canProve_532 rfl rfl ?_
              refine a_iload_n dX11_canProve_533 rfl rfl ?_
              refine a_iload_n dX11_canProve_534 rfl rfl ?_
              obtain ⟨⟨ga45, gs46⟩, h⟩ := gd_t h
              obtain ⟨v47, M48, e49, h⟩ := bnd2_t h
              obtain ⟨n50, en51, e49⟩ := hc_X11_byOne e49
              refine e_callV (As := [.int x1, .int x2, .int x3]) (st := []) (a := a0) (ci := 11) false dX11_canProve_535 mw_X11_byOne (Or.inl ⟨rfl, ml_X11_450⟩) im_X11_byOne se_X11_byOne (by decide) ga45 gs46 rfl (Nat.le_of_ble_eq_true rfl) en51 e49 ?_
              obtain ⟨gb52, h⟩ := gd_t h
              exact a_zret dX11_canProve_538 rfl gb52 (hR _ _ h)
            · replace h := ite_f c44 h
              refine a_iconst (v := 1) dX11_canProve_529 (by decide) ?_
              exact a_zret dX11_canProve_530 rfl rfl (hR _ _ h)
      · replace h := ite_t c11 h
        refine a_aload_n dX11_canProve_452 rfl rfl ?_
        refine a_iload_n dX11_canProve_453 rfl rfl ?_
        refine a_iload_n dX11_canProve_454 rfl rfl ?_
        refine a_aload_n dX11_canProve_455 rfl rfl ?_
        obtain ⟨r53, e54, h⟩ := bnd_t h
        refine a_get (v := .ref r53) dX11_canProve_456 fl_11_17 ga2 gs3 (gvR e54 rfl) ?_
        refine a_iload_n dX11_canProve_459 rfl rfl ?_
        obtain ⟨⟨ga55, gn56, gs57, gi58⟩, h⟩ := gd_t h
        refine a_iaload dX11_canProve_460 ga55 gs57 gi58 ?_
        obtain ⟨v59, M60, e61, h⟩ := bnd2_t h
        obtain ⟨n62, en63, e61⟩ := hc_X11_canProve e61
        refine e_callV (As := [.int x1, .int x2, .int (M.2.2.1 r53 (x3.toNatClampNeg))]) (st := []) (a := a0) (ci := 11) false dX11_canProve_461 mw_X11_canProve (Or.inl ⟨rfl, ml_X11_447⟩) im_X11_canProve se_X11_canProve (by decide) ga2 gs3 rfl (Nat.le_of_ble_eq_true rfl) en63 e61 ?_
        refine a_if_eq 486 dX11_canProve_464 (by decide) (fun c64 => ?_) (fun c64 => ?_)
        · replace h := ite_t c64 h
          refine a_iconst (v := 0) dX11_canProve_486 (by decide) ?_
          exact a_zret dX11_canProve_487 rfl rfl (hR _ _ h)
        · replace h := ite_f c64 h
          refine a_aload_n dX11_canProve_467 rfl rfl ?_
          refine a_iload_n dX11_canProve_468 rfl rfl ?_
          refine a_iload_n dX11_canProve_469 rfl rfl ?_
          refine a_aload_n dX11_canProve_470 rfl rfl ?_
          obtain ⟨⟨ga65, gs66⟩, h⟩ := gd_t h
          obtain ⟨r67, e68, h⟩ := bnd_t h
          refine a_get (v := .ref r67) dX11_canProve_471 fl_11_20 ga65 gs66 (gvR e68 rfl) ?_
          refine a_iload_n dX11_canProve_474 rfl rfl ?_
          obtain ⟨⟨ga69, gn70, gs71, gi72⟩, h⟩ := gd_t h
          refine a_iaload dX11_canProve_475 ga69 gs71 gi72 ?_
          obtain ⟨v73, M74, e75, h⟩ := bnd2_t h
          obtain ⟨n76, en77, e75⟩ := hc_X11_canProve e75
          refine e_callV (As := [.int x1, .int x2, .int (M60.2.2.1 r67 (x3.toNatClampNeg))]) (st := []) (a := a0) (ci := 11) false dX11_canProve_476 mw_X11_canProve (Or.inl ⟨rfl, ml_X11_447⟩) im_X11_canProve se_X11_canProve (by decide) ga65 gs66 rfl (Nat.le_of_ble_eq_true rfl) en77 e75 ?_
          refine a_if_eq 486 dX11_canProve_479 (by decide) (fun c78 => ?_) (fun c78 => ?_)
          · replace h := ite_t c78 h
            refine a_iconst (v := 0) dX11_canProve_486 (by decide) ?_
            exact a_zret dX11_canProve_487 rfl rfl (hR _ _ h)
          · replace h := ite_f c78 h
            refine a_iconst (v := 1) dX11_canProve_482 (by decide) ?_
            refine a_goto 487 dX11_canProve_483 (by decide) ?_
            exact a_zret dX11_canProve_487 rfl rfl (hR _ _ h)
    · replace h := ite_t c10 h
      refine a_aload_n dX11_canProve_407 rfl rfl ?_
      refine a_iload_n dX11_canProve_408 rfl rfl ?_
      refine a_iload_n dX11_canProve_409 rfl rfl ?_
      refine a_iconst (v := -1) dX11_canProve_410 (by decide) ?_
      obtain ⟨v79, M80, e81, h⟩ := bnd2_t h
      obtain ⟨n82, en83, e81⟩ := cal_t e81
      refine e_callV (As := [.int x1, .int x2, .int (-1)]) (st := []) (a := a0) (ci := 11) false dX11_canProve_411 mw_X11_copiesHad (Or.inl ⟨rfl, ml_X11_441⟩) im_X11_copiesHad se_X11_copiesHad (by decide) ga2 gs3 rfl (Nat.le_of_ble_eq_true rfl) en83 (s_X11_copiesHad e81) ?_
      refine a_istore dX11_canProve_414 (Nat.le_of_ble_eq_true rfl) (lv2 := [(4, .int v79), (0, .ref a0), (1, .int x1), (2, .int x2), (3, .int x3)]) rfl ?_
      refine a_aload_n dX11_canProve_416 rfl rfl ?_
      refine a_iload_n dX11_canProve_417 rfl rfl ?_
      refine a_aload_n dX11_canProve_418 rfl rfl ?_
      refine a_iload_n dX11_canProve_419 rfl rfl ?_
      refine a_iload dX11_canProve_420 rfl ?_
      refine a_aload_n dX11_canProve_422 rfl rfl ?_
      obtain ⟨⟨ga84, gs85⟩, h⟩ := gd_t h
      obtain ⟨r86, e87, h⟩ := bnd_t h
      refine a_get (v := .ref r86) dX11_canProve_423 fl_11_17 ga84 gs85 (gvR e87 rfl) ?_
      refine a_iload_n dX11_canProve_426 rfl rfl ?_
      obtain ⟨⟨ga88, gn89, gs90, gi91⟩, h⟩ := gd_t h
      refine a_iaload dX11_canProve_427 ga88 gs90 gi91 ?_
      obtain ⟨v92, M93, e94, h⟩ := bnd2_t h
      obtain ⟨n95, en96, e94⟩ := cal_t e94
      refine e_callV (As := [.int x2, .int v79, .int (M80.2.2.1 r86 (x3.toNatClampNeg))]) (st := [.int x2, .ref a0]) (a := a0) (ci := 11) false dX11_canProve_428 mw_X11_withHad (Or.inl ⟨rfl, ml_X11_444⟩) im_X11_withHad se_X11_withHad (by decide) ga84 gs85 rfl (Nat.le_of_ble_eq_true rfl) en96 (s_X11_withHad e94) ?_
      refine a_aload_n dX11_canProve_431 rfl rfl ?_
      obtain ⟨⟨ga97, gs98⟩, h⟩ := gd_t h
      obtain ⟨r99, e100, h⟩ := bnd_t h
      refine a_get (v := .ref r99) dX11_canProve_432 fl_11_20 ga97 gs98 (gvR e100 rfl) ?_
      refine a_iload_n dX11_canProve_435 rfl rfl ?_
      obtain ⟨⟨ga101, gn102, gs103, gi104⟩, h⟩ := gd_t h
      refine a_iaload dX11_canProve_436 ga101 gs103 gi104 ?_
      obtain ⟨v105, M106, e107, h⟩ := bnd2_t h
      obtain ⟨n108, en109, e107⟩ := hc_X11_canProve e107
      refine e_callV (As := [.int x2, .int v92, .int (M93.2.2.1 r99 (x3.toNatClampNeg))]) (st := []) (a := a0) (ci := 11) false dX11_canProve_437 mw_X11_canProve (Or.inl ⟨rfl, ml_X11_447⟩) im_X11_canProve se_X11_canProve (by decide) ga97 gs98 rfl (Nat.le_of_ble_eq_true rfl) en109 e107 ?_
      obtain ⟨gb110, h⟩ := gd_t h
      exact a_zret dX11_canProve_440 rfl gb110 (hR _ _ h)
  · replace h := ite_f c1 h
    refine a_aload_n dX11_canProve_38 rfl rfl ?_
    obtain ⟨⟨ga111, gs112⟩, h⟩ := gd_t h
    obtain ⟨r113, e114, h⟩ := bnd_t h
    refine a_get (v := .ref r113) dX11_canProve_39 fl_11_124 ga111 gs112 (gvR e114 rfl) ?_
    refine a_iload dX11_canProve_42 rfl ?_
    obtain ⟨⟨ga115, gn116, gs117, gi118⟩, h⟩ := gd_t h
    refine a_iaload dX11_canProve_44 ga115 gs117 gi118 ?_
    refine a_istore dX11_canProve_45 (Nat.le_of_ble_eq_true rfl) (lv2 := [(5, .int (M.2.2.1 r113 (x4.toNatClampNeg))), (0, .ref a0), (1, .int x1), (2, .int x2), (3, .int x3), (4, .int x4)]) rfl ?_
    refine a_aload_n dX11_canProve_47 rfl rfl ?_
    obtain ⟨r119, e120, h⟩ := bnd_t h
    refine a_get (v := .ref r119) dX11_canProve_48 fl_11_17 ga111 gs112 (gvR e120 rfl) ?_
    refine a_iload dX11_canProve_51 rfl ?_
    obtain ⟨⟨ga121, gn122, gs123, gi124⟩, h⟩ := gd_t h
    refine a_iaload dX11_canProve_53 ga121 gs123 gi124 ?_
    refine a_istore dX11_canProve_54 (Nat.le_of_ble_eq_true rfl) (lv2 := [(6, .int (M.2.2.1 r119 ((M.2.2.1 r113 (x4.toNatClampNeg)).toNatClampNeg))), (5, .int (M.2.2.1 r113 (x4.toNatClampNeg))), (0, .ref a0), (1, .int x1), (2, .int x2), (3, .int x3), (4, .int x4)]) rfl ?_
    refine a_aload_n dX11_canProve_56 rfl rfl ?_
    obtain ⟨r125, e126, h⟩ := bnd_t h
    refine a_get (v := .ref r125) dX11_canProve_57 fl_11_20 ga111 gs112 (gvR e126 rfl) ?_
    refine a_iload dX11_canProve_60 rfl ?_
    obtain ⟨⟨ga127, gn128, gs129, gi130⟩, h⟩ := gd_t h
    refine a_iaload dX11_canProve_62 ga127 gs129 gi130 ?_
    refine a_istore dX11_canProve_63 (Nat.le_of_ble_eq_true rfl) (lv2 := [(7, .int (M.2.2.1 r125 ((M.2.2.1 r113 (x4.toNatClampNeg)).toNatClampNeg))), (6, .int (M.2.2.1 r119 ((M.2.2.1 r113 (x4.toNatClampNeg)).toNatClampNeg))), (5, .int (M.2.2.1 r113 (x4.toNatClampNeg))), (0, .ref a0), (1, .int x1), (2, .int x2), (3, .int x3), (4, .int x4)]) rfl ?_
    refine a_aload_n dX11_canProve_65 rfl rfl ?_
    obtain ⟨r131, e132, h⟩ := bnd_t h
    refine a_get (v := .ref r131) dX11_canProve_66 fl_11_13 ga111 gs112 (gvR e132 rfl) ?_
    refine a_iload dX11_canProve_69 rfl ?_
    obtain ⟨⟨ga133, gn134, gs135, gi136⟩, h⟩ := gd_t h
    refine a_iaload dX11_canProve_71 ga133 gs135 gi136 ?_
    refine a_bipush (v := 10) dX11_canProve_72 (by decide) ?_
    refine a_icmp_ne 118 dX11_canProve_74 (by decide) (fun c137 => ?_) (fun c137 => ?_)
    · replace h := ite_f c137 h
      refine a_aload_n dX11_canProve_118 rfl rfl ?_
      refine a_get (v := .ref r131) dX11_canProve_119 fl_11_13 ga111 gs112 (gvR e132 rfl) ?_
      refine a_iload dX11_canProve_122 rfl ?_
      refine a_iaload dX11_canProve_124 ga133 gs135 gi136 ?_
      refine a_bipush (v := 11) dX11_canProve_125 (by decide) ?_
      refine a_icmp_ne 186 dX11_canProve_127 (by decide) (fun c138 => ?_) (fun c138 => ?_)
      · replace h := ite_f c138 h
        refine a_aload_n dX11_canProve_186 rfl rfl ?_
        refine a_get (v := .ref r131) dX11_canProve_187 fl_11_13 ga111 gs112 (gvR e132 rfl) ?_
        refine a_iload dX11_canProve_190 rfl ?_
        refine a_iaload dX11_canProve_192 ga133 gs135 gi136 ?_
        refine a_bipush (v := 9) dX11_canProve_193 (by decide) ?_
        refine a_icmp_eq 201 dX11_canProve_195 (by decide) (fun c139 => ?_) (fun c139 => ?_)
        · replace h := ite_t c139 h
          refine a_aload_n dX11_canProve_201 rfl rfl ?_
          refine a_get (v := .ref r131) dX11_canProve_202 fl_11_13 ga111 gs112 (gvR e132 rfl) ?_
          refine a_iload dX11_canProve_205 rfl ?_
          obtain ⟨⟨ga140, gn141, gs142, gi143⟩, h⟩ := gd_t h
          refine a_iaload dX11_canProve_207 ga140 gs142 gi143 ?_
          refine a_bipush (v := 8) dX11_canProve_208 (by decide) ?_
          refine a_icmp_ge 224 dX11_canProve_210 (by decide) (fun c144 => ?_) (fun c144 => ?_)
          · replace h := ite_t c144 h
            exact a_lv (lv2 := [(0, .ref a0), (1, .int x1), (2, .int x2), (3, .int x3), (4, .int x4), (6, .int (M.2.2.1 r119 ((M.2.2.1 r113 (x4.toNatClampNeg)).toNatClampNeg))), (7, .int (M.2.2.1 r125 ((M.2.2.1 r113 (x4.toNatClampNeg)).toNatClampNeg)))]) (fa_cons rfl (fa_cons rfl (fa_cons rfl (fa_cons rfl (fa_cons rfl (fa_cons rfl (fa_cons rfl fa_nil))))))) (hJ _ _ _ h)
          · replace h := ite_f c144 h
            refine a_aload_n dX11_canProve_213 rfl rfl ?_
            refine a_iload_n dX11_canProve_214 rfl rfl ?_
            refine a_iload_n dX11_canProve_215 rfl rfl ?_
            refine a_iload dX11_canProve_216 rfl ?_
            obtain ⟨v145, M146, e147, h⟩ := bnd2_t h
            obtain ⟨n148, en149, e147⟩ := cal_t e147
            refine e_callV (As := [.int x1, .int x2, .int (M.2.2.1 r119 ((M.2.2.1 r113 (x4.toNatClampNeg)).toNatClampNeg))]) (st := []) (a := a0) (ci := 11) false dX11_canProve_218 mw_X11_isHad (Or.inl ⟨rfl, ml_X11_438⟩) im_X11_isHad se_X11_isHad (by decide) ga111 gs112 rfl (Nat.le_of_ble_eq_true rfl) en149 (s_X11_isHad e147) ?_
            refine a_if_eq 390 dX11_canProve_221 (by decide) (fun c150 => ?_) (fun c150 => ?_)
            · replace h := ite_t c150 h
              refine a_iinc (v := (x4 + 1)) dX11_canProve_390 rfl (by first | rfl | decide) (Nat.le_of_ble_eq_true rfl) (lv2 := [(4, .int (x4 + 1)), (7, .int (M.2.2.1 r125 ((M.2.2.1 r113 (x4.toNatClampNeg)).toNatClampNeg))), (6, .int (M.2.2.1 r119 ((M.2.2.1 r113 (x4.toNatClampNeg)).toNatClampNeg))), (5, .int (M.2.2.1 r113 (x4.toNatClampNeg))), (0, .ref a0), (1, .int x1), (2, .int x2), (3, .int x3)]) rfl ?_
              refine a_goto 32 dX11_canProve_393 (by decide) ?_
              exact a_lv (lv2 := [(0, .ref a0), (1, .int x1), (2, .int x2), (3, .int x3), (4, .int (x4 + 1))]) (fa_cons rfl (fa_cons rfl (fa_cons rfl (fa_cons rfl (fa_cons rfl fa_nil))))) (hJ _ _ _ h)
            · replace h := ite_f c150 h
              exact a_lv (lv2 := [(0, .ref a0), (1, .int x1), (2, .int x2), (3, .int x3), (4, .int x4), (6, .int (M.2.2.1 r119 ((M.2.2.1 r113 (x4.toNatClampNeg)).toNatClampNeg))), (7, .int (M.2.2.1 r125 ((M.2.2.1 r113 (x4.toNatClampNeg)).toNatClampNeg)))]) (fa_cons rfl (fa_cons rfl (fa_cons rfl (fa_cons rfl (fa_cons rfl (fa_cons rfl (fa_cons rfl fa_nil))))))) (hJ _ _ _ h)
        · replace h := ite_f c139 h
          refine a_goto 390 dX11_canProve_198 (by decide) ?_
          refine a_iinc (v := (x4 + 1)) dX11_canProve_390 rfl (by first | rfl | decide) (Nat.le_of_ble_eq_true rfl) (lv2 := [(4, .int (x4 + 1)), (7, .int (M.2.2.1 r125 ((M.2.2.1 r113 (x4.toNatClampNeg)).toNatClampNeg))), (6, .int (M.2.2.1 r119 ((M.2.2.1 r113 (x4.toNatClampNeg)).toNatClampNeg))), (5, .int (M.2.2.1 r113 (x4.toNatClampNeg))), (0, .ref a0), (1, .int x1), (2, .int x2), (3, .int x3)]) rfl ?_
          refine a_goto 32 dX11_canProve_393 (by decide) ?_
          exact a_lv (lv2 := [(0, .ref a0), (1, .int x1), (2, .int x2), (3, .int x3), (4, .int (x4 + 1))]) (fa_cons rfl (fa_cons rfl (fa_cons rfl (fa_cons rfl (fa_cons rfl fa_nil))))) (hJ _ _ _ h)
      · replace h := ite_t c138 h
        refine a_aload_n dX11_canProve_130 rfl rfl ?_
        refine a_iload_n dX11_canProve_131 rfl rfl ?_
        refine a_iload_n dX11_canProve_132 rfl rfl ?_
        refine a_iload dX11_canProve_133 rfl ?_
        obtain ⟨v151, M152, e153, h⟩ := bnd2_t h
        obtain ⟨n154, en155, e153⟩ := cal_t e153
        refine e_callV (As := [.int x1, .int x2, .int x4]) (st := []) (a := a0) (ci := 11) false dX11_canProve_135 mw_X11_copiesHad (Or.inl ⟨rfl, ml_X11_441⟩) im_X11_copiesHad se_X11_copiesHad (by decide) ga111 gs112 rfl (Nat.le_of_ble_eq_true rfl) en155 (s_X11_copiesHad e153) ?_
        refine a_istore dX11_canProve_138 (Nat.le_of_ble_eq_true rfl) (lv2 := [(8, .int v151), (7, .int (M.2.2.1 r125 ((M.2.2.1 r113 (x4.toNatClampNeg)).toNatClampNeg))), (6, .int (M.2.2.1 r119 ((M.2.2.1 r113 (x4.toNatClampNeg)).toNatClampNeg))), (5, .int (M.2.2.1 r113 (x4.toNatClampNeg))), (0, .ref a0), (1, .int x1), (2, .int x2), (3, .int x3), (4, .int x4)]) rfl ?_
        refine a_aload_n dX11_canProve_140 rfl rfl ?_
        refine a_iload_n dX11_canProve_141 rfl rfl ?_
        refine a_aload_n dX11_canProve_142 rfl rfl ?_
        refine a_iload_n dX11_canProve_143 rfl rfl ?_
        refine a_iload dX11_canProve_144 rfl ?_
        refine a_iload dX11_canProve_146 rfl ?_
        obtain ⟨⟨ga156, gs157⟩, h⟩ := gd_t h
        obtain ⟨v158, M159, e160, h⟩ := bnd2_t h
        obtain ⟨n161, en162, e160⟩ := cal_t e160
        refine e_callV (As := [.int x2, .int v151, .int (M.2.2.1 r119 ((M.2.2.1 r113 (x4.toNatClampNeg)).toNatClampNeg))]) (st := [.int x2, .ref a0]) (a := a0) (ci := 11) false dX11_canProve_148 mw_X11_withHad (Or.inl ⟨rfl, ml_X11_444⟩) im_X11_withHad se_X11_withHad (by decide) ga156 gs157 rfl (Nat.le_of_ble_eq_true rfl) en162 (s_X11_withHad e160) ?_
        refine a_iload_n dX11_canProve_151 rfl rfl ?_
        obtain ⟨⟨ga163, gs164⟩, h⟩ := gd_t h
        obtain ⟨v165, M166, e167, h⟩ := bnd2_t h
        obtain ⟨n168, en169, e167⟩ := hc_X11_canProve e167
        refine e_callV (As := [.int x2, .int v158, .int x3]) (st := []) (a := a0) (ci := 11) false dX11_canProve_152 mw_X11_canProve (Or.inl ⟨rfl, ml_X11_447⟩) im_X11_canProve se_X11_canProve (by decide) ga163 gs164 rfl (Nat.le_of_ble_eq_true rfl) en169 e167 ?_
        refine a_if_ne 160 dX11_canProve_155 (by decide) (fun c170 => ?_) (fun c170 => ?_)
        · replace h := ite_f c170 h
          refine a_aload_n dX11_canProve_160 rfl rfl ?_
          refine a_iload_n dX11_canProve_161 rfl rfl ?_
          refine a_iload_n dX11_canProve_162 rfl rfl ?_
          refine a_iload dX11_canProve_163 rfl ?_
          obtain ⟨⟨ga171, gs172⟩, h⟩ := gd_t h
          obtain ⟨v173, M174, e175, h⟩ := bnd2_t h
          obtain ⟨n176, en177, e175⟩ := cal_t e175
          refine e_callV (As := [.int x1, .int x2, .int x4]) (st := []) (a := a0) (ci := 11) false dX11_canProve_165 mw_X11_copiesHad (Or.inl ⟨rfl, ml_X11_441⟩) im_X11_copiesHad se_X11_copiesHad (by decide) ga171 gs172 rfl (Nat.le_of_ble_eq_true rfl) en177 (s_X11_copiesHad e175) ?_
          refine a_istore dX11_canProve_168 (Nat.le_of_ble_eq_true rfl) (lv2 := [(8, .int v173), (7, .int (M.2.2.1 r125 ((M.2.2.1 r113 (x4.toNatClampNeg)).toNatClampNeg))), (6, .int (M.2.2.1 r119 ((M.2.2.1 r113 (x4.toNatClampNeg)).toNatClampNeg))), (5, .int (M.2.2.1 r113 (x4.toNatClampNeg))), (0, .ref a0), (1, .int x1), (2, .int x2), (3, .int x3), (4, .int x4)]) rfl ?_
          refine a_aload_n dX11_canProve_170 rfl rfl ?_
          refine a_iload_n dX11_canProve_171 rfl rfl ?_
          refine a_aload_n dX11_canProve_172 rfl rfl ?_
          refine a_iload_n dX11_canProve_173 rfl rfl ?_
          refine a_iload dX11_canProve_174 rfl ?_
          refine a_iload dX11_canProve_176 rfl ?_
          obtain ⟨⟨ga178, gs179⟩, h⟩ := gd_t h
          obtain ⟨v180, M181, e182, h⟩ := bnd2_t h
          obtain ⟨n183, en184, e182⟩ := cal_t e182
          refine e_callV (As := [.int x2, .int v173, .int (M.2.2.1 r125 ((M.2.2.1 r113 (x4.toNatClampNeg)).toNatClampNeg))]) (st := [.int x2, .ref a0]) (a := a0) (ci := 11) false dX11_canProve_178 mw_X11_withHad (Or.inl ⟨rfl, ml_X11_444⟩) im_X11_withHad se_X11_withHad (by decide) ga178 gs179 rfl (Nat.le_of_ble_eq_true rfl) en184 (s_X11_withHad e182) ?_
          refine a_iload_n dX11_canProve_181 rfl rfl ?_
          obtain ⟨⟨ga185, gs186⟩, h⟩ := gd_t h
          obtain ⟨v187, M188, e189, h⟩ := bnd2_t h
          obtain ⟨n190, en191, e189⟩ := hc_X11_canProve e189
          refine e_callV (As := [.int x2, .int v180, .int x3]) (st := []) (a := a0) (ci := 11) false dX11_canProve_182 mw_X11_canProve (Or.inl ⟨rfl, ml_X11_447⟩) im_X11_canProve se_X11_canProve (by decide) ga185 gs186 rfl (Nat.le_of_ble_eq_true rfl) en191 e189 ?_
          obtain ⟨gb192, h⟩ := gd_t h
          exact a_zret dX11_canProve_185 rfl gb192 (hR _ _ h)
        · replace h := ite_t c170 h
          refine a_iconst (v := 0) dX11_canProve_158 (by decide) ?_
          exact a_zret dX11_canProve_159 rfl rfl (hR _ _ h)
    · replace h := ite_t c137 h
      refine a_aload_n dX11_canProve_77 rfl rfl ?_
      refine a_iload_n dX11_canProve_78 rfl rfl ?_
      refine a_iload_n dX11_canProve_79 rfl rfl ?_
      refine a_iload dX11_canProve_80 rfl ?_
      obtain ⟨v193, M194, e195, h⟩ := bnd2_t h
      obtain ⟨n196, en197, e195⟩ := cal_t e195
      refine e_callV (As := [.int x1, .int x2, .int x4]) (st := []) (a := a0) (ci := 11) false dX11_canProve_82 mw_X11_copiesHad (Or.inl ⟨rfl, ml_X11_441⟩) im_X11_copiesHad se_X11_copiesHad (by decide) ga111 gs112 rfl (Nat.le_of_ble_eq_true rfl) en197 (s_X11_copiesHad e195) ?_
      refine a_istore dX11_canProve_85 (Nat.le_of_ble_eq_true rfl) (lv2 := [(8, .int v193), (7, .int (M.2.2.1 r125 ((M.2.2.1 r113 (x4.toNatClampNeg)).toNatClampNeg))), (6, .int (M.2.2.1 r119 ((M.2.2.1 r113 (x4.toNatClampNeg)).toNatClampNeg))), (5, .int (M.2.2.1 r113 (x4.toNatClampNeg))), (0, .ref a0), (1, .int x1), (2, .int x2), (3, .int x3), (4, .int x4)]) rfl ?_
      refine a_aload_n dX11_canProve_87 rfl rfl ?_
      refine a_iload_n dX11_canProve_88 rfl rfl ?_
      refine a_iload dX11_canProve_89 rfl ?_
      refine a_iload dX11_canProve_91 rfl ?_
      obtain ⟨⟨ga198, gs199⟩, h⟩ := gd_t h
      obtain ⟨v200, M201, e202, h⟩ := bnd2_t h
      obtain ⟨n203, en204, e202⟩ := cal_t e202
      refine e_callV (As := [.int x2, .int v193, .int (M.2.2.1 r119 ((M.2.2.1 r113 (x4.toNatClampNeg)).toNatClampNeg))]) (st := []) (a := a0) (ci := 11) false dX11_canProve_93 mw_X11_withHad (Or.inl ⟨rfl, ml_X11_444⟩) im_X11_withHad se_X11_withHad (by decide) ga198 gs199 rfl (Nat.le_of_ble_eq_true rfl) en204 (s_X11_withHad e202) ?_
      refine a_istore dX11_canProve_96 (Nat.le_of_ble_eq_true rfl) (lv2 := [(8, .int v200), (7, .int (M.2.2.1 r125 ((M.2.2.1 r113 (x4.toNatClampNeg)).toNatClampNeg))), (6, .int (M.2.2.1 r119 ((M.2.2.1 r113 (x4.toNatClampNeg)).toNatClampNeg))), (5, .int (M.2.2.1 r113 (x4.toNatClampNeg))), (0, .ref a0), (1, .int x1), (2, .int x2), (3, .int x3), (4, .int x4)]) rfl ?_
      refine a_aload_n dX11_canProve_98 rfl rfl ?_
      refine a_iload_n dX11_canProve_99 rfl rfl ?_
      refine a_iload dX11_canProve_100 rfl ?_
      refine a_iload dX11_canProve_102 rfl ?_
      obtain ⟨⟨ga205, gs206⟩, h⟩ := gd_t h
      obtain ⟨v207, M208, e209, h⟩ := bnd2_t h
      obtain ⟨n210, en211, e209⟩ := cal_t e209
      refine e_callV (As := [.int x2, .int v200, .int (M.2.2.1 r125 ((M.2.2.1 r113 (x4.toNatClampNeg)).toNatClampNeg))]) (st := []) (a := a0) (ci := 11) false dX11_canProve_104 mw_X11_withHad (Or.inl ⟨rfl, ml_X11_444⟩) im_X11_withHad se_X11_withHad (by decide) ga205 gs206 rfl (Nat.le_of_ble_eq_true rfl) en211 (s_X11_withHad e209) ?_
      refine a_istore dX11_canProve_107 (Nat.le_of_ble_eq_true rfl) (lv2 := [(8, .int v207), (7, .int (M.2.2.1 r125 ((M.2.2.1 r113 (x4.toNatClampNeg)).toNatClampNeg))), (6, .int (M.2.2.1 r119 ((M.2.2.1 r113 (x4.toNatClampNeg)).toNatClampNeg))), (5, .int (M.2.2.1 r113 (x4.toNatClampNeg))), (0, .ref a0), (1, .int x1), (2, .int x2), (3, .int x3), (4, .int x4)]) rfl ?_
      refine a_aload_n dX11_canProve_109 rfl rfl ?_
      refine a_iload_n dX11_canProve_110 rfl rfl ?_
      refine a_iload dX11_canProve_111 rfl ?_
      refine a_iload_n dX11_canProve_113 rfl rfl ?_
      obtain ⟨⟨ga212, gs213⟩, h⟩ := gd_t h
      obtain ⟨v214, M215, e216, h⟩ := bnd2_t h
      obtain ⟨n217, en218, e216⟩ := hc_X11_canProve e216
      refine e_callV (As := [.int x2, .int v207, .int x3]) (st := []) (a := a0) (ci := 11) false dX11_canProve_114 mw_X11_canProve (Or.inl ⟨rfl, ml_X11_447⟩) im_X11_canProve se_X11_canProve (by decide) ga212 gs213 rfl (Nat.le_of_ble_eq_true rfl) en218 e216 ?_
      obtain ⟨gb219, h⟩ := gd_t h
      exact a_zret dX11_canProve_117 rfl gb219 (hR _ _ h)
set_option maxHeartbeats 4000000 in
set_option maxRecDepth 100000 in
noncomputable def T_X11_canProve_224.{u} {α : Sort u} (J : Nat → List Value → Mem → α) (R : Int32 → Mem → α) (N : α) (cl : Nat → List Value → Mem → Option (Int32 × Mem)) (n : Nat) (a0 : Nat) (x1 : Int32) (x2 : Int32) (x3 : Int32) (x4 : Int32) (x6 : Int32) (x7 : Int32) (M : Mem) : α := gd (fO M a0 11) N (bnd (M.2.2.2.2 a0 1) N (fun r3 => gd (fA M r3 1 x6) N (if (M.2.2.1 r3 (x6.toNatClampNeg)) = 9 then J 32 [.ref a0, .int x1, .int x2, .int x3, .int (x4 + 1)] M else bnd2 (cal n (fun n => f_X11_copiesHad n a0 x1 x2 x4 M)) N (fun v10 M11 => gd (fO M11 a0 11) N (bnd (M11.2.2.2.2 a0 1) N (fun r17 => gd (fA M11 r17 1 x6) N (if 8 ≤ (M11.2.2.1 r17 (x6.toNatClampNeg)) then J 272 [.ref a0, .int x2, .int x3, .int x6, .int x7, .int v10] M11 else bnd2 (cal n (fun n => f_X11_withHad n a0 x2 v10 x7 M11)) N (fun v24 M25 => J 272 [.ref a0, .int x2, .int x3, .int x6, .int x7, .int v24] M25))))))))
set_option maxHeartbeats 4000000 in
set_option maxRecDepth 100000 in
theorem n_X11_canProve_224.{u, v} {α : Sort u} {β : Sort v} (h : α → β) (J : Nat → List Value → Mem → α) (R : Int32 → Mem → α) (N : α) (cl : Nat → List Value → Mem → Option (Int32 × Mem)) (n : Nat) (a0 : Nat) (x1 : Int32) (x2 : Int32) (x3 : Int32) (x4 : Int32) (x6 : Int32) (x7 : Int32) (M : Mem) : h (T_X11_canProve_224 J R N cl n a0 x1 x2 x3 x4 x6 x7 M) = T_X11_canProve_224 (fun c l M => h (J c l M)) (fun v M => h (R v M)) (h N) cl n a0 x1 x2 x3 x4 x6 x7 M := by
  simp only [T_X11_canProve_224, nat_ite h, nat_gd h, nat_bnd h, nat_bnd2 h]
set_option maxHeartbeats 4000000 in
set_option maxRecDepth 100000 in
theorem w_X11_canProve_224 {X : Nat × (Nat → Int32)} {al : Bool} {n : Nat} {Q : Option Value → Mem → Prop} {J : Nat → List Value → Mem → Prop} (hJ : ∀ c l M, J c l M → PW_X11_canProve X al n Q c l M) {R : Int32 → Mem → Prop} (hR : ∀ v M, R v M → Q (some (.int v)) M) {cl : Nat → List Value → Mem → Option (Int32 × Mem)} (hc_X11_canProve : ∀ {a0 : Nat} {x1 : Int32} {x2 : Int32} {x3 : Int32} {M : Mem} {v : Int32} {M1 : Mem}, cl 0 [.ref a0, .int x1, .int x2, .int x3] M = some (v, M1) → ∃ k, n = k + 1 ∧ AE yX11_canProve cX11_canProve 9 (some .boolean) al k X [.ref a0, .int x1, .int x2, .int x3] M (some (.int v)) M1) (hc_X11_byOne : ∀ {a0 : Nat} {x1 : Int32} {x2 : Int32} {x3 : Int32} {M : Mem} {v : Int32} {M1 : Mem}, cl 1 [.ref a0, .int x1, .int x2, .int x3] M = some (v, M1) → ∃ k, n = k + 1 ∧ AE yX11_byOne cX11_byOne 9 (some .boolean) al k X [.ref a0, .int x1, .int x2, .int x3] M (some (.int v)) M1) {a0 : Nat} {x1 : Int32} {x2 : Int32} {x3 : Int32} {x4 : Int32} {x6 : Int32} {x7 : Int32} {M : Mem} (h : T_X11_canProve_224 J R False cl n a0 x1 x2 x3 x4 x6 x7 M) : AW X (RX11, cX11_canProve, 9, (some .boolean), false, al, n) 0 0 224 [(0, .ref a0), (1, .int x1), (2, .int x2), (3, .int x3), (4, .int x4), (6, .int x6), (7, .int x7)] [] M Q := by
  unfold T_X11_canProve_224 at h
  refine a_aload_n dX11_canProve_224 rfl rfl ?_
  obtain ⟨⟨ga1, gs2⟩, h⟩ := gd_t h
  obtain ⟨r3, e4, h⟩ := bnd_t h
  refine a_get (v := .ref r3) dX11_canProve_225 fl_11_13 ga1 gs2 (gvR e4 rfl) ?_
  refine a_iload dX11_canProve_228 rfl ?_
  obtain ⟨⟨ga5, gn6, gs7, gi8⟩, h⟩ := gd_t h
  refine a_iaload dX11_canProve_230 ga5 gs7 gi8 ?_
  refine a_bipush (v := 9) dX11_canProve_231 (by decide) ?_
  refine a_icmp_ne 239 dX11_canProve_233 (by decide) (fun c9 => ?_) (fun c9 => ?_)
  · replace h := ite_f c9 h
    refine a_aload_n dX11_canProve_239 rfl rfl ?_
    refine a_iload_n dX11_canProve_240 rfl rfl ?_
    refine a_iload_n dX11_canProve_241 rfl rfl ?_
    refine a_iload dX11_canProve_242 rfl ?_
    obtain ⟨v10, M11, e12, h⟩ := bnd2_t h
    obtain ⟨n13, en14, e12⟩ := cal_t e12
    refine e_callV (As := [.int x1, .int x2, .int x4]) (st := []) (a := a0) (ci := 11) false dX11_canProve_244 mw_X11_copiesHad (Or.inl ⟨rfl, ml_X11_441⟩) im_X11_copiesHad se_X11_copiesHad (by decide) ga1 gs2 rfl (Nat.le_of_ble_eq_true rfl) en14 (s_X11_copiesHad e12) ?_
    refine a_istore dX11_canProve_247 (Nat.le_of_ble_eq_true rfl) (lv2 := [(8, .int v10), (0, .ref a0), (1, .int x1), (2, .int x2), (3, .int x3), (4, .int x4), (6, .int x6), (7, .int x7)]) rfl ?_
    refine a_aload_n dX11_canProve_249 rfl rfl ?_
    obtain ⟨⟨ga15, gs16⟩, h⟩ := gd_t h
    obtain ⟨r17, e18, h⟩ := bnd_t h
    refine a_get (v := .ref r17) dX11_canProve_250 fl_11_13 ga15 gs16 (gvR e18 rfl) ?_
    refine a_iload dX11_canProve_253 rfl ?_
    obtain ⟨⟨ga19, gn20, gs21, gi22⟩, h⟩ := gd_t h
    refine a_iaload dX11_canProve_255 ga19 gs21 gi22 ?_
    refine a_bipush (v := 8) dX11_canProve_256 (by decide) ?_
    refine a_icmp_ge 272 dX11_canProve_258 (by decide) (fun c23 => ?_) (fun c23 => ?_)
    · replace h := ite_t c23 h
      exact a_lv (lv2 := [(0, .ref a0), (2, .int x2), (3, .int x3), (6, .int x6), (7, .int x7), (8, .int v10)]) (fa_cons rfl (fa_cons rfl (fa_cons rfl (fa_cons rfl (fa_cons rfl (fa_cons rfl fa_nil)))))) (hJ _ _ _ h)
    · replace h := ite_f c23 h
      refine a_aload_n dX11_canProve_261 rfl rfl ?_
      refine a_iload_n dX11_canProve_262 rfl rfl ?_
      refine a_iload dX11_canProve_263 rfl ?_
      refine a_iload dX11_canProve_265 rfl ?_
      obtain ⟨v24, M25, e26, h⟩ := bnd2_t h
      obtain ⟨n27, en28, e26⟩ := cal_t e26
      refine e_callV (As := [.int x2, .int v10, .int x7]) (st := []) (a := a0) (ci := 11) false dX11_canProve_267 mw_X11_withHad (Or.inl ⟨rfl, ml_X11_444⟩) im_X11_withHad se_X11_withHad (by decide) ga15 gs16 rfl (Nat.le_of_ble_eq_true rfl) en28 (s_X11_withHad e26) ?_
      refine a_istore dX11_canProve_270 (Nat.le_of_ble_eq_true rfl) (lv2 := [(8, .int v24), (0, .ref a0), (1, .int x1), (2, .int x2), (3, .int x3), (4, .int x4), (6, .int x6), (7, .int x7)]) rfl ?_
      exact a_lv (lv2 := [(0, .ref a0), (2, .int x2), (3, .int x3), (6, .int x6), (7, .int x7), (8, .int v24)]) (fa_cons rfl (fa_cons rfl (fa_cons rfl (fa_cons rfl (fa_cons rfl (fa_cons rfl fa_nil)))))) (hJ _ _ _ h)
  · replace h := ite_t c9 h
    refine a_goto 390 dX11_canProve_236 (by decide) ?_
    refine a_iinc (v := (x4 + 1)) dX11_canProve_390 rfl (by first | rfl | decide) (Nat.le_of_ble_eq_true rfl) (lv2 := [(4, .int (x4 + 1)), (0, .ref a0), (1, .int x1), (2, .int x2), (3, .int x3), (6, .int x6), (7, .int x7)]) rfl ?_
    refine a_goto 32 dX11_canProve_393 (by decide) ?_
    exact a_lv (lv2 := [(0, .ref a0), (1, .int x1), (2, .int x2), (3, .int x3), (4, .int (x4 + 1))]) (fa_cons rfl (fa_cons rfl (fa_cons rfl (fa_cons rfl (fa_cons rfl fa_nil))))) (hJ _ _ _ h)
set_option maxHeartbeats 4000000 in
set_option maxRecDepth 100000 in
noncomputable def T_X11_canProve_272.{u} {α : Sort u} (J : Nat → List Value → Mem → α) (R : Int32 → Mem → α) (N : α) (cl : Nat → List Value → Mem → Option (Int32 × Mem)) (n : Nat) (a0 : Nat) (x2 : Int32) (x3 : Int32) (x6 : Int32) (x7 : Int32) (x8 : Int32) (M : Mem) : α := gd (fO M a0 11) N (bnd (M.2.2.2.2 a0 1) N (fun r3 => gd (fA M r3 1 x6) N (if (M.2.2.1 r3 (x6.toNatClampNeg)) = 10 then bnd (M.2.2.2.2 a0 2) N (fun r10 => gd (fA M r10 1 x6) N (bnd (M.2.2.2.2 a0 3) N (fun r16 => gd (fA M r16 1 x6) N (bnd2 (cal n (fun n => f_X11_formula n a0 9 (M.2.2.1 r16 (x6.toNatClampNeg)) x7 M)) N (fun v22 M23 => gd (fO M23 a0 11) N (bnd2 (cal n (fun n => f_X11_formula n a0 9 (M.2.2.1 r10 (x6.toNatClampNeg)) v22 M23)) N (fun v29 M30 => gd (fO M30 a0 11) N (bnd2 (cal n (fun n => f_X11_withHad n a0 x2 x8 v29 M30)) N (fun v36 M37 => J 321 [.ref a0, .int x2, .int x3, .int x6, .int x7, .int v36] M37))))))))) else J 321 [.ref a0, .int x2, .int x3, .int x6, .int x7, .int x8] M)))
set_option maxHeartbeats 4000000 in
set_option maxRecDepth 100000 in
theorem n_X11_canProve_272.{u, v} {α : Sort u} {β : Sort v} (h : α → β) (J : Nat → List Value → Mem → α) (R : Int32 → Mem → α) (N : α) (cl : Nat → List Value → Mem → Option (Int32 × Mem)) (n : Nat) (a0 : Nat) (x2 : Int32) (x3 : Int32) (x6 : Int32) (x7 : Int32) (x8 : Int32) (M : Mem) : h (T_X11_canProve_272 J R N cl n a0 x2 x3 x6 x7 x8 M) = T_X11_canProve_272 (fun c l M => h (J c l M)) (fun v M => h (R v M)) (h N) cl n a0 x2 x3 x6 x7 x8 M := by
  simp only [T_X11_canProve_272, nat_ite h, nat_gd h, nat_bnd h, nat_bnd2 h]
set_option maxHeartbeats 4000000 in
set_option maxRecDepth 100000 in
theorem w_X11_canProve_272 {X : Nat × (Nat → Int32)} {al : Bool} {n : Nat} {Q : Option Value → Mem → Prop} {J : Nat → List Value → Mem → Prop} (hJ : ∀ c l M, J c l M → PW_X11_canProve X al n Q c l M) {R : Int32 → Mem → Prop} (hR : ∀ v M, R v M → Q (some (.int v)) M) {cl : Nat → List Value → Mem → Option (Int32 × Mem)} (hc_X11_canProve : ∀ {a0 : Nat} {x1 : Int32} {x2 : Int32} {x3 : Int32} {M : Mem} {v : Int32} {M1 : Mem}, cl 0 [.ref a0, .int x1, .int x2, .int x3] M = some (v, M1) → ∃ k, n = k + 1 ∧ AE yX11_canProve cX11_canProve 9 (some .boolean) al k X [.ref a0, .int x1, .int x2, .int x3] M (some (.int v)) M1) (hc_X11_byOne : ∀ {a0 : Nat} {x1 : Int32} {x2 : Int32} {x3 : Int32} {M : Mem} {v : Int32} {M1 : Mem}, cl 1 [.ref a0, .int x1, .int x2, .int x3] M = some (v, M1) → ∃ k, n = k + 1 ∧ AE yX11_byOne cX11_byOne 9 (some .boolean) al k X [.ref a0, .int x1, .int x2, .int x3] M (some (.int v)) M1) {a0 : Nat} {x2 : Int32} {x3 : Int32} {x6 : Int32} {x7 : Int32} {x8 : Int32} {M : Mem} (h : T_X11_canProve_272 J R False cl n a0 x2 x3 x6 x7 x8 M) : AW X (RX11, cX11_canProve, 9, (some .boolean), false, al, n) 0 0 272 [(0, .ref a0), (2, .int x2), (3, .int x3), (6, .int x6), (7, .int x7), (8, .int x8)] [] M Q := by
  unfold T_X11_canProve_272 at h
  refine a_aload_n dX11_canProve_272 rfl rfl ?_
  obtain ⟨⟨ga1, gs2⟩, h⟩ := gd_t h
  obtain ⟨r3, e4, h⟩ := bnd_t h
  refine a_get (v := .ref r3) dX11_canProve_273 fl_11_13 ga1 gs2 (gvR e4 rfl) ?_
  refine a_iload dX11_canProve_276 rfl ?_
  obtain ⟨⟨ga5, gn6, gs7, gi8⟩, h⟩ := gd_t h
  refine a_iaload dX11_canProve_278 ga5 gs7 gi8 ?_
  refine a_bipush (v := 10) dX11_canProve_279 (by decide) ?_
  refine a_icmp_ne 321 dX11_canProve_281 (by decide) (fun c9 => ?_) (fun c9 => ?_)
  · replace h := ite_f c9 h
    exact a_lv (lv2 := [(0, .ref a0), (2, .int x2), (3, .int x3), (6, .int x6), (7, .int x7), (8, .int x8)]) (fa_cons rfl (fa_cons rfl (fa_cons rfl (fa_cons rfl (fa_cons rfl (fa_cons rfl fa_nil)))))) (hJ _ _ _ h)
  · replace h := ite_t c9 h
    refine a_aload_n dX11_canProve_284 rfl rfl ?_
    refine a_iload_n dX11_canProve_285 rfl rfl ?_
    refine a_iload dX11_canProve_286 rfl ?_
    refine a_aload_n dX11_canProve_288 rfl rfl ?_
    refine a_bipush (v := 9) dX11_canProve_289 (by decide) ?_
    refine a_aload_n dX11_canProve_291 rfl rfl ?_
    obtain ⟨r10, e11, h⟩ := bnd_t h
    refine a_get (v := .ref r10) dX11_canProve_292 fl_11_17 ga1 gs2 (gvR e11 rfl) ?_
    refine a_iload dX11_canProve_295 rfl ?_
    obtain ⟨⟨ga12, gn13, gs14, gi15⟩, h⟩ := gd_t h
    refine a_iaload dX11_canProve_297 ga12 gs14 gi15 ?_
    refine a_aload_n dX11_canProve_298 rfl rfl ?_
    refine a_bipush (v := 9) dX11_canProve_299 (by decide) ?_
    refine a_aload_n dX11_canProve_301 rfl rfl ?_
    obtain ⟨r16, e17, h⟩ := bnd_t h
    refine a_get (v := .ref r16) dX11_canProve_302 fl_11_20 ga1 gs2 (gvR e17 rfl) ?_
    refine a_iload dX11_canProve_305 rfl ?_
    obtain ⟨⟨ga18, gn19, gs20, gi21⟩, h⟩ := gd_t h
    refine a_iaload dX11_canProve_307 ga18 gs20 gi21 ?_
    refine a_iload dX11_canProve_308 rfl ?_
    obtain ⟨v22, M23, e24, h⟩ := bnd2_t h
    obtain ⟨n25, en26, e24⟩ := cal_t e24
    refine e_callV (As := [.int 9, .int (M.2.2.1 r16 (x6.toNatClampNeg)), .int x7]) (st := [.int (M.2.2.1 r10 (x6.toNatClampNeg)), .int 9, .ref a0, .int x8, .int x2, .ref a0]) (a := a0) (ci := 11) false dX11_canProve_310 mw_X11_formula (Or.inl ⟨rfl, ml_X11_130⟩) im_X11_formula se_X11_formula (by decide) ga1 gs2 rfl (Nat.le_of_ble_eq_true rfl) en26 (s_X11_formula e24) ?_
    obtain ⟨⟨ga27, gs28⟩, h⟩ := gd_t h
    obtain ⟨v29, M30, e31, h⟩ := bnd2_t h
    obtain ⟨n32, en33, e31⟩ := cal_t e31
    refine e_callV (As := [.int 9, .int (M.2.2.1 r10 (x6.toNatClampNeg)), .int v22]) (st := [.int x8, .int x2, .ref a0]) (a := a0) (ci := 11) false dX11_canProve_313 mw_X11_formula (Or.inl ⟨rfl, ml_X11_130⟩) im_X11_formula se_X11_formula (by decide) ga27 gs28 rfl (Nat.le_of_ble_eq_true rfl) en33 (s_X11_formula e31) ?_
    obtain ⟨⟨ga34, gs35⟩, h⟩ := gd_t h
    obtain ⟨v36, M37, e38, h⟩ := bnd2_t h
    obtain ⟨n39, en40, e38⟩ := cal_t e38
    refine e_callV (As := [.int x2, .int x8, .int v29]) (st := []) (a := a0) (ci := 11) false dX11_canProve_316 mw_X11_withHad (Or.inl ⟨rfl, ml_X11_444⟩) im_X11_withHad se_X11_withHad (by decide) ga34 gs35 rfl (Nat.le_of_ble_eq_true rfl) en40 (s_X11_withHad e38) ?_
    refine a_istore dX11_canProve_319 (Nat.le_of_ble_eq_true rfl) (lv2 := [(8, .int v36), (0, .ref a0), (2, .int x2), (3, .int x3), (6, .int x6), (7, .int x7)]) rfl ?_
    exact a_lv (lv2 := [(0, .ref a0), (2, .int x2), (3, .int x3), (6, .int x6), (7, .int x7), (8, .int v36)]) (fa_cons rfl (fa_cons rfl (fa_cons rfl (fa_cons rfl (fa_cons rfl (fa_cons rfl fa_nil)))))) (hJ _ _ _ h)
set_option maxHeartbeats 4000000 in
set_option maxRecDepth 100000 in
noncomputable def T_X11_canProve_321.{u} {α : Sort u} (J : Nat → List Value → Mem → α) (R : Int32 → Mem → α) (N : α) (cl : Nat → List Value → Mem → Option (Int32 × Mem)) (n : Nat) (a0 : Nat) (x2 : Int32) (x3 : Int32) (x6 : Int32) (x7 : Int32) (x8 : Int32) (M : Mem) : α := gd (fO M a0 11) N (bnd (M.2.2.2.2 a0 1) N (fun r3 => gd (fA M r3 1 x6) N (if (M.2.2.1 r3 (x6.toNatClampNeg)) = 11 then bnd (M.2.2.2.2 a0 2) N (fun r16 => gd (fA M r16 1 x6) N (bnd2 (cal n (fun n => f_X11_formula n a0 9 (M.2.2.1 r16 (x6.toNatClampNeg)) x7 M)) N (fun v22 M23 => gd (fO M23 a0 11) N (bnd2 (cal n (fun n => f_X11_withHad n a0 x2 x8 v22 M23)) N (fun v29 M30 => gd (fO M30 a0 11) N (bnd (M30.2.2.2.2 a0 3) N (fun r36 => gd (fA M30 r36 1 x6) N (bnd2 (cal n (fun n => f_X11_formula n a0 9 (M30.2.2.1 r36 (x6.toNatClampNeg)) x7 M30)) N (fun v42 M43 => gd (fO M43 a0 11) N (bnd2 (cal n (fun n => f_X11_withHad n a0 x2 v29 v42 M43)) N (fun v49 M50 => gd (fO M50 a0 11) N (bnd2 (cl 0 [.ref a0, .int x2, .int v49, .int x3] M50) N (fun v56 M57 => gd (narrow .boolean (.int v56) = .int v56) N (R v56 M57)))))))))))))) else bnd2 (cl 0 [.ref a0, .int x2, .int x8, .int x3] M) N (fun v10 M11 => gd (narrow .boolean (.int v10) = .int v10) N (R v10 M11)))))
set_option maxHeartbeats 4000000 in
set_option maxRecDepth 100000 in
theorem n_X11_canProve_321.{u, v} {α : Sort u} {β : Sort v} (h : α → β) (J : Nat → List Value → Mem → α) (R : Int32 → Mem → α) (N : α) (cl : Nat → List Value → Mem → Option (Int32 × Mem)) (n : Nat) (a0 : Nat) (x2 : Int32) (x3 : Int32) (x6 : Int32) (x7 : Int32) (x8 : Int32) (M : Mem) : h (T_X11_canProve_321 J R N cl n a0 x2 x3 x6 x7 x8 M) = T_X11_canProve_321 (fun c l M => h (J c l M)) (fun v M => h (R v M)) (h N) cl n a0 x2 x3 x6 x7 x8 M := by
  simp only [T_X11_canProve_321, nat_ite h, nat_gd h, nat_bnd h, nat_bnd2 h]
set_option maxHeartbeats 4000000 in
set_option maxRecDepth 100000 in
theorem w_X11_canProve_321 {X : Nat × (Nat → Int32)} {al : Bool} {n : Nat} {Q : Option Value → Mem → Prop} {J : Nat → List Value → Mem → Prop} (hJ : ∀ c l M, J c l M → PW_X11_canProve X al n Q c l M) {R : Int32 → Mem → Prop} (hR : ∀ v M, R v M → Q (some (.int v)) M) {cl : Nat → List Value → Mem → Option (Int32 × Mem)} (hc_X11_canProve : ∀ {a0 : Nat} {x1 : Int32} {x2 : Int32} {x3 : Int32} {M : Mem} {v : Int32} {M1 : Mem}, cl 0 [.ref a0, .int x1, .int x2, .int x3] M = some (v, M1) → ∃ k, n = k + 1 ∧ AE yX11_canProve cX11_canProve 9 (some .boolean) al k X [.ref a0, .int x1, .int x2, .int x3] M (some (.int v)) M1) (hc_X11_byOne : ∀ {a0 : Nat} {x1 : Int32} {x2 : Int32} {x3 : Int32} {M : Mem} {v : Int32} {M1 : Mem}, cl 1 [.ref a0, .int x1, .int x2, .int x3] M = some (v, M1) → ∃ k, n = k + 1 ∧ AE yX11_byOne cX11_byOne 9 (some .boolean) al k X [.ref a0, .int x1, .int x2, .int x3] M (some (.int v)) M1) {a0 : Nat} {x2 : Int32} {x3 : Int32} {x6 : Int32} {x7 : Int32} {x8 : Int32} {M : Mem} (h : T_X11_canProve_321 J R False cl n a0 x2 x3 x6 x7 x8 M) : AW X (RX11, cX11_canProve, 9, (some .boolean), false, al, n) 0 0 321 [(0, .ref a0), (2, .int x2), (3, .int x3), (6, .int x6), (7, .int x7), (8, .int x8)] [] M Q := by
  unfold T_X11_canProve_321 at h
  refine a_aload_n dX11_canProve_321 rfl rfl ?_
  obtain ⟨⟨ga1, gs2⟩, h⟩ := gd_t h
  obtain ⟨r3, e4, h⟩ := bnd_t h
  refine a_get (v := .ref r3) dX11_canProve_322 fl_11_13 ga1 gs2 (gvR e4 rfl) ?_
  refine a_iload dX11_canProve_325 rfl ?_
  obtain ⟨⟨ga5, gn6, gs7, gi8⟩, h⟩ := gd_t h
  refine a_iaload dX11_canProve_327 ga5 gs7 gi8 ?_
  refine a_bipush (v := 11) dX11_canProve_328 (by decide) ?_
  refine a_icmp_ne 381 dX11_canProve_330 (by decide) (fun c9 => ?_) (fun c9 => ?_)
  · replace h := ite_f c9 h
    refine a_aload_n dX11_canProve_381 rfl rfl ?_
    refine a_iload_n dX11_canProve_382 rfl rfl ?_
    refine a_iload dX11_canProve_383 rfl ?_
    refine a_iload_n dX11_canProve_385 rfl rfl ?_
    obtain ⟨v10, M11, e12, h⟩ := bnd2_t h
    obtain ⟨n13, en14, e12⟩ := hc_X11_canProve e12
    refine e_callV (As := [.int x2, .int x8, .int x3]) (st := []) (a := a0) (ci := 11) false dX11_canProve_386 mw_X11_canProve (Or.inl ⟨rfl, ml_X11_447⟩) im_X11_canProve se_X11_canProve (by decide) ga1 gs2 rfl (Nat.le_of_ble_eq_true rfl) en14 e12 ?_
    obtain ⟨gb15, h⟩ := gd_t h
    exact a_zret dX11_canProve_389 rfl gb15 (hR _ _ h)
  · replace h := ite_t c9 h
    refine a_aload_n dX11_canProve_333 rfl rfl ?_
    refine a_iload_n dX11_canProve_334 rfl rfl ?_
    refine a_iload dX11_canProve_335 rfl ?_
    refine a_aload_n dX11_canProve_337 rfl rfl ?_
    refine a_bipush (v := 9) dX11_canProve_338 (by decide) ?_
    refine a_aload_n dX11_canProve_340 rfl rfl ?_
    obtain ⟨r16, e17, h⟩ := bnd_t h
    refine a_get (v := .ref r16) dX11_canProve_341 fl_11_17 ga1 gs2 (gvR e17 rfl) ?_
    refine a_iload dX11_canProve_344 rfl ?_
    obtain ⟨⟨ga18, gn19, gs20, gi21⟩, h⟩ := gd_t h
    refine a_iaload dX11_canProve_346 ga18 gs20 gi21 ?_
    refine a_iload dX11_canProve_347 rfl ?_
    obtain ⟨v22, M23, e24, h⟩ := bnd2_t h
    obtain ⟨n25, en26, e24⟩ := cal_t e24
    refine e_callV (As := [.int 9, .int (M.2.2.1 r16 (x6.toNatClampNeg)), .int x7]) (st := [.int x8, .int x2, .ref a0]) (a := a0) (ci := 11) false dX11_canProve_349 mw_X11_formula (Or.inl ⟨rfl, ml_X11_130⟩) im_X11_formula se_X11_formula (by decide) ga1 gs2 rfl (Nat.le_of_ble_eq_true rfl) en26 (s_X11_formula e24) ?_
    obtain ⟨⟨ga27, gs28⟩, h⟩ := gd_t h
    obtain ⟨v29, M30, e31, h⟩ := bnd2_t h
    obtain ⟨n32, en33, e31⟩ := cal_t e31
    refine e_callV (As := [.int x2, .int x8, .int v22]) (st := []) (a := a0) (ci := 11) false dX11_canProve_352 mw_X11_withHad (Or.inl ⟨rfl, ml_X11_444⟩) im_X11_withHad se_X11_withHad (by decide) ga27 gs28 rfl (Nat.le_of_ble_eq_true rfl) en33 (s_X11_withHad e31) ?_
    refine a_istore dX11_canProve_355 (Nat.le_of_ble_eq_true rfl) (lv2 := [(8, .int v29), (0, .ref a0), (2, .int x2), (3, .int x3), (6, .int x6), (7, .int x7)]) rfl ?_
    refine a_aload_n dX11_canProve_357 rfl rfl ?_
    refine a_iload_n dX11_canProve_358 rfl rfl ?_
    refine a_iload dX11_canProve_359 rfl ?_
    refine a_aload_n dX11_canProve_361 rfl rfl ?_
    refine a_bipush (v := 9) dX11_canProve_362 (by decide) ?_
    refine a_aload_n dX11_canProve_364 rfl rfl ?_
    obtain ⟨⟨ga34, gs35⟩, h⟩ := gd_t h
    obtain ⟨r36, e37, h⟩ := bnd_t h
    refine a_get (v := .ref r36) dX11_canProve_365 fl_11_20 ga34 gs35 (gvR e37 rfl) ?_
    refine a_iload dX11_canProve_368 rfl ?_
    obtain ⟨⟨ga38, gn39, gs40, gi41⟩, h⟩ := gd_t h
    refine a_iaload dX11_canProve_370 ga38 gs40 gi41 ?_
    refine a_iload dX11_canProve_371 rfl ?_
    obtain ⟨v42, M43, e44, h⟩ := bnd2_t h
    obtain ⟨n45, en46, e44⟩ := cal_t e44
    refine e_callV (As := [.int 9, .int (M30.2.2.1 r36 (x6.toNatClampNeg)), .int x7]) (st := [.int v29, .int x2, .ref a0]) (a := a0) (ci := 11) false dX11_canProve_373 mw_X11_formula (Or.inl ⟨rfl, ml_X11_130⟩) im_X11_formula se_X11_formula (by decide) ga34 gs35 rfl (Nat.le_of_ble_eq_true rfl) en46 (s_X11_formula e44) ?_
    obtain ⟨⟨ga47, gs48⟩, h⟩ := gd_t h
    obtain ⟨v49, M50, e51, h⟩ := bnd2_t h
    obtain ⟨n52, en53, e51⟩ := cal_t e51
    refine e_callV (As := [.int x2, .int v29, .int v42]) (st := []) (a := a0) (ci := 11) false dX11_canProve_376 mw_X11_withHad (Or.inl ⟨rfl, ml_X11_444⟩) im_X11_withHad se_X11_withHad (by decide) ga47 gs48 rfl (Nat.le_of_ble_eq_true rfl) en53 (s_X11_withHad e51) ?_
    refine a_istore dX11_canProve_379 (Nat.le_of_ble_eq_true rfl) (lv2 := [(8, .int v49), (0, .ref a0), (2, .int x2), (3, .int x3), (6, .int x6), (7, .int x7)]) rfl ?_
    refine a_aload_n dX11_canProve_381 rfl rfl ?_
    refine a_iload_n dX11_canProve_382 rfl rfl ?_
    refine a_iload dX11_canProve_383 rfl ?_
    refine a_iload_n dX11_canProve_385 rfl rfl ?_
    obtain ⟨⟨ga54, gs55⟩, h⟩ := gd_t h
    obtain ⟨v56, M57, e58, h⟩ := bnd2_t h
    obtain ⟨n59, en60, e58⟩ := hc_X11_canProve e58
    refine e_callV (As := [.int x2, .int v49, .int x3]) (st := []) (a := a0) (ci := 11) false dX11_canProve_386 mw_X11_canProve (Or.inl ⟨rfl, ml_X11_447⟩) im_X11_canProve se_X11_canProve (by decide) ga54 gs55 rfl (Nat.le_of_ble_eq_true rfl) en60 e58 ?_
    obtain ⟨gb61, h⟩ := gd_t h
    exact a_zret dX11_canProve_389 rfl gb61 (hR _ _ h)
set_option maxHeartbeats 4000000 in
set_option maxRecDepth 100000 in
noncomputable def st_X11_canProve (cl : Nat → List Value → Mem → Option (Int32 × Mem)) (n : Nat) (s : Sg) : Option (Sg ⊕ (Int32 × Mem)) := if s.1 = 0 then vR s.2.1 none (fun a0 t => vI t none (fun x1 t => vI t none (fun x2 t => vI t none (fun x3 t => vE t none (T_X11_canProve_0 (fun c l M => some (.inl (c, l, M))) (fun v M => some (.inr (v, M))) none cl n a0 x1 x2 x3 s.2.2))))) else if s.1 = 32 then vR s.2.1 none (fun a0 t => vI t none (fun x1 t => vI t none (fun x2 t => vI t none (fun x3 t => vI t none (fun x4 t => vE t none (T_X11_canProve_32 (fun c l M => some (.inl (c, l, M))) (fun v M => some (.inr (v, M))) none cl n a0 x1 x2 x3 x4 s.2.2)))))) else if s.1 = 224 then vR s.2.1 none (fun a0 t => vI t none (fun x1 t => vI t none (fun x2 t => vI t none (fun x3 t => vI t none (fun x4 t => vI t none (fun x6 t => vI t none (fun x7 t => vE t none (T_X11_canProve_224 (fun c l M => some (.inl (c, l, M))) (fun v M => some (.inr (v, M))) none cl n a0 x1 x2 x3 x4 x6 x7 s.2.2)))))))) else if s.1 = 272 then vR s.2.1 none (fun a0 t => vI t none (fun x2 t => vI t none (fun x3 t => vI t none (fun x6 t => vI t none (fun x7 t => vI t none (fun x8 t => vE t none (T_X11_canProve_272 (fun c l M => some (.inl (c, l, M))) (fun v M => some (.inr (v, M))) none cl n a0 x2 x3 x6 x7 x8 s.2.2))))))) else if s.1 = 321 then vR s.2.1 none (fun a0 t => vI t none (fun x2 t => vI t none (fun x3 t => vI t none (fun x6 t => vI t none (fun x7 t => vI t none (fun x8 t => vE t none (T_X11_canProve_321 (fun c l M => some (.inl (c, l, M))) (fun v M => some (.inr (v, M))) none cl n a0 x2 x3 x6 x7 x8 s.2.2))))))) else none
noncomputable abbrev g_X11_canProve_0 (cl : Nat → List Value → Mem → Option (Int32 × Mem)) (n : Nat) (a0 : Nat) (x1 : Int32) (x2 : Int32) (x3 : Int32) (M : Mem) : Option (Int32 × Mem) := lp (st_X11_canProve cl n) (0, [.ref a0, .int x1, .int x2, .int x3], M)
set_option maxHeartbeats 4000000 in
set_option maxRecDepth 100000 in
theorem ge_X11_canProve_0 (cl : Nat → List Value → Mem → Option (Int32 × Mem)) (n : Nat) (a0 : Nat) (x1 : Int32) (x2 : Int32) (x3 : Int32) (M : Mem) : g_X11_canProve_0 cl n a0 x1 x2 x3 M = T_X11_canProve_0 (fun c l M => lp (st_X11_canProve cl n) (c, l, M)) (fun v M => some (v, M)) none cl n a0 x1 x2 x3 M := (lp_eq _ _).trans (n_X11_canProve_0 (lpK (st_X11_canProve cl n)) (fun c l M => some (.inl (c, l, M))) (fun v M => some (.inr (v, M))) none cl n a0 x1 x2 x3 M)
noncomputable abbrev g_X11_canProve_32 (cl : Nat → List Value → Mem → Option (Int32 × Mem)) (n : Nat) (a0 : Nat) (x1 : Int32) (x2 : Int32) (x3 : Int32) (x4 : Int32) (M : Mem) : Option (Int32 × Mem) := lp (st_X11_canProve cl n) (32, [.ref a0, .int x1, .int x2, .int x3, .int x4], M)
set_option maxHeartbeats 4000000 in
set_option maxRecDepth 100000 in
theorem ge_X11_canProve_32 (cl : Nat → List Value → Mem → Option (Int32 × Mem)) (n : Nat) (a0 : Nat) (x1 : Int32) (x2 : Int32) (x3 : Int32) (x4 : Int32) (M : Mem) : g_X11_canProve_32 cl n a0 x1 x2 x3 x4 M = T_X11_canProve_32 (fun c l M => lp (st_X11_canProve cl n) (c, l, M)) (fun v M => some (v, M)) none cl n a0 x1 x2 x3 x4 M := (lp_eq _ _).trans (n_X11_canProve_32 (lpK (st_X11_canProve cl n)) (fun c l M => some (.inl (c, l, M))) (fun v M => some (.inr (v, M))) none cl n a0 x1 x2 x3 x4 M)
noncomputable abbrev g_X11_canProve_224 (cl : Nat → List Value → Mem → Option (Int32 × Mem)) (n : Nat) (a0 : Nat) (x1 : Int32) (x2 : Int32) (x3 : Int32) (x4 : Int32) (x6 : Int32) (x7 : Int32) (M : Mem) : Option (Int32 × Mem) := lp (st_X11_canProve cl n) (224, [.ref a0, .int x1, .int x2, .int x3, .int x4, .int x6, .int x7], M)
set_option maxHeartbeats 4000000 in
set_option maxRecDepth 100000 in
theorem ge_X11_canProve_224 (cl : Nat → List Value → Mem → Option (Int32 × Mem)) (n : Nat) (a0 : Nat) (x1 : Int32) (x2 : Int32) (x3 : Int32) (x4 : Int32) (x6 : Int32) (x7 : Int32) (M : Mem) : g_X11_canProve_224 cl n a0 x1 x2 x3 x4 x6 x7 M = T_X11_canProve_224 (fun c l M => lp (st_X11_canProve cl n) (c, l, M)) (fun v M => some (v, M)) none cl n a0 x1 x2 x3 x4 x6 x7 M := (lp_eq _ _).trans (n_X11_canProve_224 (lpK (st_X11_canProve cl n)) (fun c l M => some (.inl (c, l, M))) (fun v M => some (.inr (v, M))) none cl n a0 x1 x2 x3 x4 x6 x7 M)
noncomputable abbrev g_X11_canProve_272 (cl : Nat → List Value → Mem → Option (Int32 × Mem)) (n : Nat) (a0 : Nat) (x2 : Int32) (x3 : Int32) (x6 : Int32) (x7 : Int32) (x8 : Int32) (M : Mem) : Option (Int32 × Mem) := lp (st_X11_canProve cl n) (272, [.ref a0, .int x2, .int x3, .int x6, .int x7, .int x8], M)
set_option maxHeartbeats 4000000 in
set_option maxRecDepth 100000 in
theorem ge_X11_canProve_272 (cl : Nat → List Value → Mem → Option (Int32 × Mem)) (n : Nat) (a0 : Nat) (x2 : Int32) (x3 : Int32) (x6 : Int32) (x7 : Int32) (x8 : Int32) (M : Mem) : g_X11_canProve_272 cl n a0 x2 x3 x6 x7 x8 M = T_X11_canProve_272 (fun c l M => lp (st_X11_canProve cl n) (c, l, M)) (fun v M => some (v, M)) none cl n a0 x2 x3 x6 x7 x8 M := (lp_eq _ _).trans (n_X11_canProve_272 (lpK (st_X11_canProve cl n)) (fun c l M => some (.inl (c, l, M))) (fun v M => some (.inr (v, M))) none cl n a0 x2 x3 x6 x7 x8 M)
noncomputable abbrev g_X11_canProve_321 (cl : Nat → List Value → Mem → Option (Int32 × Mem)) (n : Nat) (a0 : Nat) (x2 : Int32) (x3 : Int32) (x6 : Int32) (x7 : Int32) (x8 : Int32) (M : Mem) : Option (Int32 × Mem) := lp (st_X11_canProve cl n) (321, [.ref a0, .int x2, .int x3, .int x6, .int x7, .int x8], M)
set_option maxHeartbeats 4000000 in
set_option maxRecDepth 100000 in
theorem ge_X11_canProve_321 (cl : Nat → List Value → Mem → Option (Int32 × Mem)) (n : Nat) (a0 : Nat) (x2 : Int32) (x3 : Int32) (x6 : Int32) (x7 : Int32) (x8 : Int32) (M : Mem) : g_X11_canProve_321 cl n a0 x2 x3 x6 x7 x8 M = T_X11_canProve_321 (fun c l M => lp (st_X11_canProve cl n) (c, l, M)) (fun v M => some (v, M)) none cl n a0 x2 x3 x6 x7 x8 M := (lp_eq _ _).trans (n_X11_canProve_321 (lpK (st_X11_canProve cl n)) (fun c l M => some (.inl (c, l, M))) (fun v M => some (.inr (v, M))) none cl n a0 x2 x3 x6 x7 x8 M)
noncomputable def b_X11_canProve (cl : Nat → List Value → Mem → Option (Int32 × Mem)) (n : Nat) (a0 : Nat) (x1 : Int32) (x2 : Int32) (x3 : Int32) (M : Mem) : Option (Int32 × Mem) := g_X11_canProve_0 cl n a0 x1 x2 x3 M
set_option maxHeartbeats 4000000 in
set_option maxRecDepth 100000 in
theorem sb_X11_canProve {X : Nat × (Nat → Int32)} {al : Bool} {n : Nat} {cl : Nat → List Value → Mem → Option (Int32 × Mem)} (hc_X11_canProve : ∀ {a0 : Nat} {x1 : Int32} {x2 : Int32} {x3 : Int32} {M : Mem} {v : Int32} {M1 : Mem}, cl 0 [.ref a0, .int x1, .int x2, .int x3] M = some (v, M1) → ∃ k, n = k + 1 ∧ AE yX11_canProve cX11_canProve 9 (some .boolean) al k X [.ref a0, .int x1, .int x2, .int x3] M (some (.int v)) M1) (hc_X11_byOne : ∀ {a0 : Nat} {x1 : Int32} {x2 : Int32} {x3 : Int32} {M : Mem} {v : Int32} {M1 : Mem}, cl 1 [.ref a0, .int x1, .int x2, .int x3] M = some (v, M1) → ∃ k, n = k + 1 ∧ AE yX11_byOne cX11_byOne 9 (some .boolean) al k X [.ref a0, .int x1, .int x2, .int x3] M (some (.int v)) M1) {a0 : Nat} {x1 : Int32} {x2 : Int32} {x3 : Int32} {M : Mem} {v : Int32} {M1 : Mem} (h : b_X11_canProve cl n a0 x1 x2 x3 M = some (v, M1)) : AE yX11_canProve cX11_canProve 9 (some .boolean) al n X [.ref a0, .int x1, .int x2, .int x3] M (some (.int v)) M1 := by
  refine AM.of false (by decide +kernel) (by intro h; cases h) (Nat.le_of_ble_eq_true rfl) ?_
  refine lp_snd (P := fun s r => PW_X11_canProve X al n (fun v M2 => v = (some (.int r.1)) ∧ M2 = r.2) s.1 s.2.1 s.2.2) ?_ h
  clear h
  rintro ⟨c, l, M⟩ r h
  unfold st_X11_canProve at h
  rcases ite_p h with ⟨e, h⟩ | ⟨e, h⟩
  · replace e : c = 0 := e
    subst e
    obtain ⟨a0, tt0, e, h⟩ := vR_p id h
    replace e : l = _ := e
    subst e
    obtain ⟨x1, tt1, e, h⟩ := vI_p id h
    replace e : tt0 = _ := e
    subst e
    obtain ⟨x2, tt2, e, h⟩ := vI_p id h
    replace e : tt1 = _ := e
    subst e
    obtain ⟨x3, tt3, e, h⟩ := vI_p id h
    replace e : tt2 = _ := e
    subst e
    obtain ⟨e, h⟩ := vE_p id h
    replace e : tt3 = [] := e
    subst e
    exact w_X11_canProve_0 (J := fun c l M => PW_X11_canProve X al n (fun v M2 => v = (some (.int r.1)) ∧ M2 = r.2) c l M) (R := fun v M => (v, M) = r) (fun _ _ _ h => h) (fun v M h => by cases h; exact ⟨rfl, rfl⟩) hc_X11_canProve hc_X11_byOne ((n_X11_canProve_0 (lpP (fun (s : Sg) (r : Int32 × Mem) => PW_X11_canProve X al n (fun v M2 => v = (some (.int r.1)) ∧ M2 = r.2) s.1 s.2.1 s.2.2) r) (fun c l M => some (.inl (c, l, M))) (fun v M => some (.inr (v, M))) none cl n a0 x1 x2 x3 M).mp h)
  rcases ite_p h with ⟨e, h⟩ | ⟨e, h⟩
  · replace e : c = 32 := e
    subst e
    obtain ⟨a0, tt0, e, h⟩ := vR_p id h
    replace e : l = _ := e
    subst e
    obtain ⟨x1, tt1, e, h⟩ := vI_p id h
    replace e : tt0 = _ := e
    subst e
    obtain ⟨x2, tt2, e, h⟩ := vI_p id h
    replace e : tt1 = _ := e
    subst e
    obtain ⟨x3, tt3, e, h⟩ := vI_p id h
    replace e : tt2 = _ := e
    subst e
    obtain ⟨x4, tt4, e, h⟩ := vI_p id h
    replace e : tt3 = _ := e
    subst e
    obtain ⟨e, h⟩ := vE_p id h
    replace e : tt4 = [] := e
    subst e
    exact w_X11_canProve_32 (J := fun c l M => PW_X11_canProve X al n (fun v M2 => v = (some (.int r.1)) ∧ M2 = r.2) c l M) (R := fun v M => (v, M) = r) (fun _ _ _ h => h) (fun v M h => by cases h; exact ⟨rfl, rfl⟩) hc_X11_canProve hc_X11_byOne ((n_X11_canProve_32 (lpP (fun (s : Sg) (r : Int32 × Mem) => PW_X11_canProve X al n (fun v M2 => v = (some (.int r.1)) ∧ M2 = r.2) s.1 s.2.1 s.2.2) r) (fun c l M => some (.inl (c, l, M))) (fun v M => some (.inr (v, M))) none cl n a0 x1 x2 x3 x4 M).mp h)
  rcases ite_p h with ⟨e, h⟩ | ⟨e, h⟩
  · replace e : c = 224 := e
    subst e
    obtain ⟨a0, tt0, e, h⟩ := vR_p id h
    replace e : l = _ := e
    subst e
    obtain ⟨x1, tt1, e, h⟩ := vI_p id h
    replace e : tt0 = _ := e
    subst e
    obtain ⟨x2, tt2, e, h⟩ := vI_p id h
    replace e : tt1 = _ := e
    subst e
    obtain ⟨x3, tt3, e, h⟩ := vI_p id h
    replace e : tt2 = _ := e
    subst e
    obtain ⟨x4, tt4, e, h⟩ := vI_p id h
    replace e : tt3 = _ := e
    subst e
    obtain ⟨x6, tt5, e, h⟩ := vI_p id h
    replace e : tt4 = _ := e
    subst e
    obtain ⟨x7, tt6, e, h⟩ := vI_p id h
    replace e : tt5 = _ := e
    subst e
    obtain ⟨e, h⟩ := vE_p id h
    replace e : tt6 = [] := e
    subst e
    exact w_X11_canProve_224 (J := fun c l M => PW_X11_canProve X al n (fun v M2 => v = (some (.int r.1)) ∧ M2 = r.2) c l M) (R := fun v M => (v, M) = r) (fun _ _ _ h => h) (fun v M h => by cases h; exact ⟨rfl, rfl⟩) hc_X11_canProve hc_X11_byOne ((n_X11_canProve_224 (lpP (fun (s : Sg) (r : Int32 × Mem) => PW_X11_canProve X al n (fun v M2 => v = (some (.int r.1)) ∧ M2 = r.2) s.1 s.2.1 s.2.2) r) (fun c l M => some (.inl (c, l, M))) (fun v M => some (.inr (v, M))) none cl n a0 x1 x2 x3 x4 x6 x7 M).mp h)
  rcases ite_p h with ⟨e, h⟩ | ⟨e, h⟩
  · replace e : c = 272 := e
    subst e
    obtain ⟨a0, tt0, e, h⟩ := vR_p id h
    replace e : l = _ := e
    subst e
    obtain ⟨x2, tt1, e, h⟩ := vI_p id h
    replace e : tt0 = _ := e
    subst e
    obtain ⟨x3, tt2, e, h⟩ := vI_p id h
    replace e : tt1 = _ := e
    subst e
    obtain ⟨x6, tt3, e, h⟩ := vI_p id h
    replace e : tt2 = _ := e
    subst e
    obtain ⟨x7, tt4, e, h⟩ := vI_p id h
    replace e : tt3 = _ := e
    subst e
    obtain ⟨x8, tt5, e, h⟩ := vI_p id h
    replace e : tt4 = _ := e
    subst e
    obtain ⟨e, h⟩ := vE_p id h
    replace e : tt5 = [] := e
    subst e
    exact w_X11_canProve_272 (J := fun c l M => PW_X11_canProve X al n (fun v M2 => v = (some (.int r.1)) ∧ M2 = r.2) c l M) (R := fun v M => (v, M) = r) (fun _ _ _ h => h) (fun v M h => by cases h; exact ⟨rfl, rfl⟩) hc_X11_canProve hc_X11_byOne ((n_X11_canProve_272 (lpP (fun (s : Sg) (r : Int32 × Mem) => PW_X11_canProve X al n (fun v M2 => v = (some (.int r.1)) ∧ M2 = r.2) s.1 s.2.1 s.2.2) r) (fun c l M => some (.inl (c, l, M))) (fun v M => some (.inr (v, M))) none cl n a0 x2 x3 x6 x7 x8 M).mp h)
  rcases ite_p h with ⟨e, h⟩ | ⟨e, h⟩
  · replace e : c = 321 := e
    subst e
    obtain ⟨a0, tt0, e, h⟩ := vR_p id h
    replace e : l = _ := e
    subst e
    obtain ⟨x2, tt1, e, h⟩ := vI_p id h
    replace e : tt0 = _ := e
    subst e
    obtain ⟨x3, tt2, e, h⟩ := vI_p id h
    replace e : tt1 = _ := e
    subst e
    obtain ⟨x6, tt3, e, h⟩ := vI_p id h
    replace e : tt2 = _ := e
    subst e
    obtain ⟨x7, tt4, e, h⟩ := vI_p id h
    replace e : tt3 = _ := e
    subst e
    obtain ⟨x8, tt5, e, h⟩ := vI_p id h
    replace e : tt4 = _ := e
    subst e
    obtain ⟨e, h⟩ := vE_p id h
    replace e : tt5 = [] := e
    subst e
    exact w_X11_canProve_321 (J := fun c l M => PW_X11_canProve X al n (fun v M2 => v = (some (.int r.1)) ∧ M2 = r.2) c l M) (R := fun v M => (v, M) = r) (fun _ _ _ h => h) (fun v M h => by cases h; exact ⟨rfl, rfl⟩) hc_X11_canProve hc_X11_byOne ((n_X11_canProve_321 (lpP (fun (s : Sg) (r : Int32 × Mem) => PW_X11_canProve X al n (fun v M2 => v = (some (.int r.1)) ∧ M2 = r.2) s.1 s.2.1 s.2.2) r) (fun c l M => some (.inl (c, l, M))) (fun v M => some (.inr (v, M))) none cl n a0 x2 x3 x6 x7 x8 M).mp h)
  · exact h.elim

def ix_X11_byOne (c : Nat) : List Nat := if c = 0 then [0, 1, 2, 3] else if c = 3 then [0, 1, 2, 3, 4] else []
def PW_X11_byOne (X : Nat × (Nat → Int32)) (al : Bool) (n : Nat) (Q : Option Value → Mem → Prop) (c : Nat) (l : List Value) (M : Mem) : Prop := AW X (RX11, cX11_byOne, 9, (some .boolean), false, al, n) 0 0 c (List.zip (ix_X11_byOne c) l) (l.drop (ix_X11_byOne c).length) M Q
set_option maxHeartbeats 4000000 in
set_option maxRecDepth 100000 in
noncomputable def T_X11_byOne_0.{u} {α : Sort u} (J : Nat → List Value → Mem → α) (R : Int32 → Mem → α) (N : α) (cl : Nat → List Value → Mem → Option (Int32 × Mem)) (n : Nat) (a0 : Nat) (x1 : Int32) (x2 : Int32) (x3 : Int32) (M : Mem) : α := J 3 [.ref a0, .int x1, .int x2, .int x3, .int x1] M
set_option maxHeartbeats 4000000 in
set_option maxRecDepth 100000 in
theorem n_X11_byOne_0.{u, v} {α : Sort u} {β : Sort v} (h : α → β) (J : Nat → List Value → Mem → α) (R : Int32 → Mem → α) (N : α) (cl : Nat → List Value → Mem → Option (Int32 × Mem)) (n : Nat) (a0 : Nat) (x1 : Int32) (x2 : Int32) (x3 : Int32) (M : Mem) : h (T_X11_byOne_0 J R N cl n a0 x1 x2 x3 M) = T_X11_byOne_0 (fun c l M => h (J c l M)) (fun v M => h (R v M)) (h N) cl n a0 x1 x2 x3 M := by
  simp only [T_X11_byOne_0, nat_ite h, nat_gd h, nat_bnd h, nat_bnd2 h]
set_option maxHeartbeats 4000000 in
set_option maxRecDepth 100000 in
theorem w_X11_byOne_0 {X : Nat × (Nat → Int32)} {al : Bool} {n : Nat} {Q : Option Value → Mem → Prop} {J : Nat → List Value → Mem → Prop} (hJ : ∀ c l M, J c l M → PW_X11_byOne X al n Q c l M) {R : Int32 → Mem → Prop} (hR : ∀ v M, R v M → Q (some (.int v)) M) {cl : Nat → List Value → Mem → Option (Int32 × Mem)} (hc_X11_canProve : ∀ {a0 : Nat} {x1 : Int32} {x2 : Int32} {x3 : Int32} {M : Mem} {v : Int32} {M1 : Mem}, cl 0 [.ref a0, .int x1, .int x2, .int x3] M = some (v, M1) → ∃ k, n = k + 1 ∧ AE yX11_canProve cX11_canProve 9 (some .boolean) al k X [.ref a0, .int x1, .int x2, .int x3] M (some (.int v)) M1) (hc_X11_byOne : ∀ {a0 : Nat} {x1 : Int32} {x2 : Int32} {x3 : Int32} {M : Mem} {v : Int32} {M1 : Mem}, cl 1 [.ref a0, .int x1, .int x2, .int x3] M = some (v, M1) → ∃ k, n = k + 1 ∧ AE yX11_byOne cX11_byOne 9 (some .boolean) al k X [.ref a0, .int x1, .int x2, .int x3] M (some (.int v)) M1) {a0 : Nat} {x1 : Int32} {x2 : Int32} {x3 : Int32} {M : Mem} (h : T_X11_byOne_0 J R False cl n a0 x1 x2 x3 M) : AW X (RX11, cX11_byOne, 9, (some .boolean), false, al, n) 0 0 0 [(0, .ref a0), (1, .int x1), (2, .int x2), (3, .int x3)] [] M Q := by
  unfold T_X11_byOne_0 at h
  refine a_iload_n dX11_byOne_0 rfl rfl ?_
  refine a_istore dX11_byOne_1 (Nat.le_of_ble_eq_true rfl) (lv2 := [(4, .int x1), (0, .ref a0), (1, .int x1), (2, .int x2), (3, .int x3)]) rfl ?_
  exact a_lv (lv2 := [(0, .ref a0), (1, .int x1), (2, .int x2), (3, .int x3), (4, .int x1)]) (fa_cons rfl (fa_cons rfl (fa_cons rfl (fa_cons rfl (fa_cons rfl fa_nil))))) (hJ _ _ _ h)
set_option maxHeartbeats 4000000 in
set_option maxRecDepth 100000 in
noncomputable def T_X11_byOne_3.{u} {α : Sort u} (J : Nat → List Value → Mem → α) (R : Int32 → Mem → α) (N : α) (cl : Nat → List Value → Mem → Option (Int32 × Mem)) (n : Nat) (a0 : Nat) (x1 : Int32) (x2 : Int32) (x3 : Int32) (x4 : Int32) (M : Mem) : α := if x2 ≤ x4 then R 0 M else gd (fO M a0 11) N (bnd (M.2.2.2.2 a0 60) N (fun r4 => gd (fA M r4 1 x4) N (bnd (M.2.2.2.2 a0 1) N (fun r10 => gd (fA M r10 1 (M.2.2.1 r4 (x4.toNatClampNeg))) N (if (M.2.2.1 r10 ((M.2.2.1 r4 (x4.toNatClampNeg)).toNatClampNeg)) = 9 then bnd (M.2.2.2.2 a0 2) N (fun r17 => gd (fA M r17 1 (M.2.2.1 r4 (x4.toNatClampNeg))) N (gd (fA M r10 1 (M.2.2.1 r17 ((M.2.2.1 r4 (x4.toNatClampNeg)).toNatClampNeg))) N (if (M.2.2.1 r10 ((M.2.2.1 r17 ((M.2.2.1 r4 (x4.toNatClampNeg)).toNatClampNeg)).toNatClampNeg)) = 9 then gd (fA M r17 1 (M.2.2.1 r17 ((M.2.2.1 r4 (x4.toNatClampNeg)).toNatClampNeg))) N (bnd (M.2.2.2.2 a0 3) N (fun r32 => gd (fA M r32 1 (M.2.2.1 r17 ((M.2.2.1 r4 (x4.toNatClampNeg)).toNatClampNeg))) N (bnd2 (cal n (fun n => f_X11_copiesHad n a0 x1 x2 x4 M)) N (fun v38 M39 => gd (fO M39 a0 11) N (bnd2 (cal n (fun n => f_X11_withHad n a0 x2 v38 (M.2.2.1 r17 ((M.2.2.1 r17 ((M.2.2.1 r4 (x4.toNatClampNeg)).toNatClampNeg)).toNatClampNeg)) M39)) N (fun v45 M46 => gd (fO M46 a0 11) N (bnd (M46.2.2.2.2 a0 3) N (fun r52 => gd (fA M46 r52 1 (M.2.2.1 r4 (x4.toNatClampNeg))) N (bnd2 (cal n (fun n => f_X11_formula n a0 9 (M.2.2.1 r32 ((M.2.2.1 r17 ((M.2.2.1 r4 (x4.toNatClampNeg)).toNatClampNeg)).toNatClampNeg)) (M46.2.2.1 r52 ((M.2.2.1 r4 (x4.toNatClampNeg)).toNatClampNeg)) M46)) N (fun v58 M59 => gd (fO M59 a0 11) N (bnd2 (cal n (fun n => f_X11_withHad n a0 x2 v45 v58 M59)) N (fun v65 M66 => gd (fO M66 a0 11) N (bnd2 (cl 0 [.ref a0, .int x2, .int v65, .int (M.2.2.1 r32 ((M.2.2.1 r17 ((M.2.2.1 r4 (x4.toNatClampNeg)).toNatClampNeg)).toNatClampNeg))] M66) N (fun v72 M73 => if v72 = 0 then J 3 [.ref a0, .int x1, .int x2, .int x3, .int (x4 + 1)] M73 else gd (fO M73 a0 11) N (bnd2 (cal n (fun n => f_X11_copiesHad n a0 x1 x2 x4 M73)) N (fun v80 M81 => gd (fO M81 a0 11) N (bnd (M81.2.2.2.2 a0 3) N (fun r87 => gd (fA M81 r87 1 (M.2.2.1 r4 (x4.toNatClampNeg))) N (bnd2 (cal n (fun n => f_X11_withHad n a0 x2 v80 (M81.2.2.1 r87 ((M.2.2.1 r4 (x4.toNatClampNeg)).toNatClampNeg)) M81)) N (fun v93 M94 => gd (fO M94 a0 11) N (bnd2 (cl 0 [.ref a0, .int x2, .int v93, .int x3] M94) N (fun v100 M101 => gd (narrow .boolean (.int v100) = .int v100) N (R v100 M101))))))))))))))))))))))) else J 3 [.ref a0, .int x1, .int x2, .int x3, .int (x4 + 1)] M))) else J 3 [.ref a0, .int x1, .int x2, .int x3, .int (x4 + 1)] M)))))
set_option maxHeartbeats 4000000 in
set_option maxRecDepth 100000 in
theorem n_X11_byOne_3.{u, v} {α : Sort u} {β : Sort v} (h : α → β) (J : Nat → List Value → Mem → α) (R : Int32 → Mem → α) (N : α) (cl : Nat → List Value → Mem → Option (Int32 × Mem)) (n : Nat) (a0 : Nat) (x1 : Int32) (x2 : Int32) (x3 : Int32) (x4 : Int32) (M : Mem) : h (T_X11_byOne_3 J R N cl n a0 x1 x2 x3 x4 M) = T_X11_byOne_3 (fun c l M => h (J c l M)) (fun v M => h (R v M)) (h N) cl n a0 x1 x2 x3 x4 M := by
  simp only [T_X11_byOne_3, nat_ite h, nat_gd h, nat_bnd h, nat_bnd2 h]
set_option maxHeartbeats 4000000 in
set_option maxRecDepth 100000 in
theorem w_X11_byOne_3 {X : Nat × (Nat → Int32)} {al : Bool} {n : Nat} {Q : Option Value → Mem → Prop} {J : Nat → List Value → Mem → Prop} (hJ : ∀ c l M, J c l M → PW_X11_byOne X al n Q c l M) {R : Int32 → Mem → Prop} (hR : ∀ v M, R v M → Q (some (.int v)) M) {cl : Nat → List Value → Mem → Option (Int32 × Mem)} (hc_X11_canProve : ∀ {a0 : Nat} {x1 : Int32} {x2 : Int32} {x3 : Int32} {M : Mem} {v : Int32} {M1 : Mem}, cl 0 [.ref a0, .int x1, .int x2, .int x3] M = some (v, M1) → ∃ k, n = k + 1 ∧ AE yX11_canProve cX11_canProve 9 (some .boolean) al k X [.ref a0, .int x1, .int x2, .int x3] M (some (.int v)) M1) (hc_X11_byOne : ∀ {a0 : Nat} {x1 : Int32} {x2 : Int32} {x3 : Int32} {M : Mem} {v : Int32} {M1 : Mem}, cl 1 [.ref a0, .int x1, .int x2, .int x3] M = some (v, M1) → ∃ k, n = k + 1 ∧ AE yX11_byOne cX11_byOne 9 (some .boolean) al k X [.ref a0, .int x1, .int x2, .int x3] M (some (.int v)) M1) {a0 : Nat} {x1 : Int32} {x2 : Int32} {x3 : Int32} {x4 : Int32} {M : Mem} (h : T_X11_byOne_3 J R False cl n a0 x1 x2 x3 x4 M) : AW X (RX11, cX11_byOne, 9, (some .boolean), false, al, n) 0 0 3 [(0, .ref a0), (1, .int x1), (2, .int x2), (3, .int x3), (4, .int x4)] [] M Q := by
  unfold T_X11_byOne_3 at h
  refine a_iload dX11_byOne_3 rfl ?_
  refine a_iload_n dX11_byOne_5 rfl rfl ?_
  refine a_icmp_ge 175 dX11_byOne_6 (by decide) (fun c1 => ?_) (fun c1 => ?_)
  · replace h := ite_t c1 h
    refine a_iconst (v := 0) dX11_byOne_175 (by decide) ?_
    exact a_zret dX11_byOne_176 rfl rfl (hR _ _ h)
  · replace h := ite_f c1 h
    refine a_aload_n dX11_byOne_9 rfl rfl ?_
    obtain ⟨⟨ga2, gs3⟩, h⟩ := gd_t h
    obtain ⟨r4, e5, h⟩ := bnd_t h
    refine a_get (v := .ref r4) dX11_byOne_10 fl_11_124 ga2 gs3 (gvR e5 rfl) ?_
    refine a_iload dX11_byOne_13 rfl ?_
    obtain ⟨⟨ga6, gn7, gs8, gi9⟩, h⟩ := gd_t h
    refine a_iaload dX11_byOne_15 ga6 gs8 gi9 ?_
    refine a_istore dX11_byOne_16 (Nat.le_of_ble_eq_true rfl) (lv2 := [(5, .int (M.2.2.1 r4 (x4.toNatClampNeg))), (0, .ref a0), (1, .int x1), (2, .int x2), (3, .int x3), (4, .int x4)]) rfl ?_
    refine a_aload_n dX11_byOne_18 rfl rfl ?_
    obtain ⟨r10, e11, h⟩ := bnd_t h
    refine a_get (v := .ref r10) dX11_byOne_19 fl_11_13 ga2 gs3 (gvR e11 rfl) ?_
    refine a_iload dX11_byOne_22 rfl ?_
    obtain ⟨⟨ga12, gn13, gs14, gi15⟩, h⟩ := gd_t h
    refine a_iaload dX11_byOne_24 ga12 gs14 gi15 ?_
    refine a_bipush (v := 9) dX11_byOne_25 (by decide) ?_
    refine a_icmp_ne 169 dX11_byOne_27 (by decide) (fun c16 => ?_) (fun c16 => ?_)
    · replace h := ite_f c16 h
      refine a_iinc (v := (x4 + 1)) dX11_byOne_169 rfl (by first | rfl | decide) (Nat.le_of_ble_eq_true rfl) (lv2 := [(4, .int (x4 + 1)), (5, .int (M.2.2.1 r4 (x4.toNatClampNeg))), (0, .ref a0), (1, .int x1), (2, .int x2), (3, .int x3)]) rfl ?_
      refine a_goto 3 dX11_byOne_172 (by decide) ?_
      exact a_lv (lv2 := [(0, .ref a0), (1, .int x1), (2, .int x2), (3, .int x3), (4, .int (x4 + 1))]) (fa_cons rfl (fa_cons rfl (fa_cons rfl (fa_cons rfl (fa_cons rfl fa_nil))))) (hJ _ _ _ h)
    · replace h := ite_t c16 h
      refine a_aload_n dX11_byOne_30 rfl rfl ?_
      refine a_get (v := .ref r10) dX11_byOne_31 fl_11_13 ga2 gs3 (gvR e11 rfl) ?_
      refine a_aload_n dX11_byOne_34 rfl rfl ?_
      obtain ⟨r17, e18, h⟩ := bnd_t h
      refine a_get (v := .ref r17) dX11_byOne_35 fl_11_17 ga2 gs3 (gvR e18 rfl) ?_
      refine a_iload dX11_byOne_38 rfl ?_
      obtain ⟨⟨ga19, gn20, gs21, gi22⟩, h⟩ := gd_t h
      refine a_iaload dX11_byOne_40 ga19 gs21 gi22 ?_
      obtain ⟨⟨ga23, gn24, gs25, gi26⟩, h⟩ := gd_t h
      refine a_iaload dX11_byOne_41 ga23 gs25 gi26 ?_
      refine a_bipush (v := 9) dX11_byOne_42 (by decide) ?_
      refine a_icmp_eq 50 dX11_byOne_44 (by decide) (fun c27 => ?_) (fun c27 => ?_)
      · replace h := ite_t c27 h
        refine a_aload_n dX11_byOne_50 rfl rfl ?_
        refine a_get (v := .ref r17) dX11_byOne_51 fl_11_17 ga2 gs3 (gvR e18 rfl) ?_
        refine a_aload_n dX11_byOne_54 rfl rfl ?_
        refine a_get (v := .ref r17) dX11_byOne_55 fl_11_17 ga2 gs3 (gvR e18 rfl) ?_
        refine a_iload dX11_byOne_58 rfl ?_
        refine a_iaload dX11_byOne_60 ga19 gs21 gi22 ?_
        obtain ⟨⟨ga28, gn29, gs30, gi31⟩, h⟩ := gd_t h
        refine a_iaload dX11_byOne_61 ga28 gs30 gi31 ?_
        refine a_istore dX11_byOne_62 (Nat.le_of_ble_eq_true rfl) (lv2 := [(6, .int (M.2.2.1 r17 ((M.2.2.1 r17 ((M.2.2.1 r4 (x4.toNatClampNeg)).toNatClampNeg)).toNatClampNeg))), (5, .int (M.2.2.1 r4 (x4.toNatClampNeg))), (0, .ref a0), (1, .int x1), (2, .int x2), (3, .int x3), (4, .int x4)]) rfl ?_
        refine a_aload_n dX11_byOne_64 rfl rfl ?_
        obtain ⟨r32, e33, h⟩ := bnd_t h
        refine a_get (v := .ref r32) dX11_byOne_65 fl_11_20 ga2 gs3 (gvR e33 rfl) ?_
        refine a_aload_n dX11_byOne_68 rfl rfl ?_
        refine a_get (v := .ref r17) dX11_byOne_69 fl_11_17 ga2 gs3 (gvR e18 rfl) ?_
        refine a_iload dX11_byOne_72 rfl ?_
        refine a_iaload dX11_byOne_74 ga19 gs21 gi22 ?_
        obtain ⟨⟨ga34, gn35, gs36, gi37⟩, h⟩ := gd_t h
        refine a_iaload dX11_byOne_75 ga34 gs36 gi37 ?_
        refine a_istore dX11_byOne_76 (Nat.le_of_ble_eq_true rfl) (lv2 := [(7, .int (M.2.2.1 r32 ((M.2.2.1 r17 ((M.2.2.1 r4 (x4.toNatClampNeg)).toNatClampNeg)).toNatClampNeg))), (6, .int (M.2.2.1 r17 ((M.2.2.1 r17 ((M.2.2.1 r4 (x4.toNatClampNeg)).toNatClampNeg)).toNatClampNeg))), (5, .int (M.2.2.1 r4 (x4.toNatClampNeg))), (0, .ref a0), (1, .int x1), (2, .int x2), (3, .int x3), (4, .int x4)]) rfl ?_
        refine a_aload_n dX11_byOne_78 rfl rfl ?_
        refine a_iload_n dX11_byOne_79 rfl rfl ?_
        refine a_iload_n dX11_byOne_80 rfl rfl ?_
        refine a_iload dX11_byOne_81 rfl ?_
        obtain ⟨v38, M39, e40, h⟩ := bnd2_t h
        obtain ⟨n41, en42, e40⟩ := cal_t e40
        refine e_callV (As := [.int x1, .int x2, .int x4]) (st := []) (a := a0) (ci := 11) false dX11_byOne_83 mw_X11_copiesHad (Or.inl ⟨rfl, ml_X11_441⟩) im_X11_copiesHad se_X11_copiesHad (by decide) ga2 gs3 rfl (Nat.le_of_ble_eq_true rfl) en42 (s_X11_copiesHad e40) ?_
        refine a_istore dX11_byOne_86 (Nat.le_of_ble_eq_true rfl) (lv2 := [(8, .int v38), (7, .int (M.2.2.1 r32 ((M.2.2.1 r17 ((M.2.2.1 r4 (x4.toNatClampNeg)).toNatClampNeg)).toNatClampNeg))), (6, .int (M.2.2.1 r17 ((M.2.2.1 r17 ((M.2.2.1 r4 (x4.toNatClampNeg)).toNatClampNeg)).toNatClampNeg))), (5, .int (M.2.2.1 r4 (x4.toNatClampNeg))), (0, .ref a0), (1, .int x1), (2, .int x2), (3, .int x3), (4, .int x4)]) rfl ?_
        refine a_aload_n dX11_byOne_88 rfl rfl ?_
        refine a_iload_n dX11_byOne_89 rfl rfl ?_
        refine a_iload dX11_byOne_90 rfl ?_
        refine a_iload dX11_byOne_92 rfl ?_
        obtain ⟨⟨ga43, gs44⟩, h⟩ := gd_t h
        obtain ⟨v45, M46, e47, h⟩ := bnd2_t h
        obtain ⟨n48, en49, e47⟩ := cal_t e47
        refine e_callV (As := [.int x2, .int v38, .int (M.2.2.1 r17 ((M.2.2.1 r17 ((M.2.2.1 r4 (x4.toNatClampNeg)).toNatClampNeg)).toNatClampNeg))]) (st := []) (a := a0) (ci := 11) false dX11_byOne_94 mw_X11_withHad (Or.inl ⟨rfl, ml_X11_444⟩) im_X11_withHad se_X11_withHad (by decide) ga43 gs44 rfl (Nat.le_of_ble_eq_true rfl) en49 (s_X11_withHad e47) ?_
        refine a_istore dX11_byOne_97 (Nat.le_of_ble_eq_true rfl) (lv2 := [(8, .int v45), (7, .int (M.2.2.1 r32 ((M.2.2.1 r17 ((M.2.2.1 r4 (x4.toNatClampNeg)).toNatClampNeg)).toNatClampNeg))), (6, .int (M.2.2.1 r17 ((M.2.2.1 r17 ((M.2.2.1 r4 (x4.toNatClampNeg)).toNatClampNeg)).toNatClampNeg))), (5, .int (M.2.2.1 r4 (x4.toNatClampNeg))), (0, .ref a0), (1, .int x1), (2, .int x2), (3, .int x3), (4, .int x4)]) rfl ?_
        refine a_aload_n dX11_byOne_99 rfl rfl ?_
        refine a_iload_n dX11_byOne_100 rfl rfl ?_
        refine a_iload dX11_byOne_101 rfl ?_
        refine a_aload_n dX11_byOne_103 rfl rfl ?_
        refine a_bipush (v := 9) dX11_byOne_104 (by decide) ?_
        refine a_iload dX11_byOne_106 rfl ?_
        refine a_aload_n dX11_byOne_108 rfl rfl ?_
        obtain ⟨⟨ga50, gs51⟩, h⟩ := gd_t h
        obtain ⟨r52, e53, h⟩ := bnd_t h
        refine a_get (v := .ref r52) dX11_byOne_109 fl_11_20 ga50 gs51 (gvR e53 rfl) ?_
        refine a_iload dX11_byOne_112 rfl ?_
        obtain ⟨⟨ga54, gn55, gs56, gi57⟩, h⟩ := gd_t h
        refine a_iaload dX11_byOne_114 ga54 gs56 gi57 ?_
        obtain ⟨v58, M59, e60, h⟩ := bnd2_t h
        obtain ⟨n61, en62, e60⟩ := cal_t e60
        refine e_callV (As := [.int 9, .int (M.2.2.1 r32 ((M.2.2.1 r17 ((M.2.2.1 r4 (x4.toNatClampNeg)).toNatClampNeg)).toNatClampNeg)), .int (M46.2.2.1 r52 ((M.2.2.1 r4 (x4.toNatClampNeg)).toNatClampNeg))]) (st := [.int v45, .int x2, .ref a0]) (a := a0) (ci := 11) false dX11_byOne_115 mw_X11_formula (Or.inl ⟨rfl, ml_X11_130⟩) im_X11_formula se_X11_formula (by decide) ga50 gs51 rfl (Nat.le_of_ble_eq_true rfl) en62 (s_X11_formula e60) ?_
        obtain ⟨⟨ga63, gs64⟩, h⟩ := gd_t h
        obtain ⟨v65, M66, e67, h⟩ := bnd2_t h
        obtain ⟨n68, en69, e67⟩ := cal_t e67
        refine e_callV (As := [.int x2, .int v45, .int v58]) (st := []) (a := a0) (ci := 11) false dX11_byOne_118 mw_X11_withHad (Or.inl ⟨rfl, ml_X11_444⟩) im_X11_withHad se_X11_withHad (by decide) ga63 gs64 rfl (Nat.le_of_ble_eq_true rfl) en69 (s_X11_withHad e67) ?_
        refine a_istore dX11_byOne_121 (Nat.le_of_ble_eq_true rfl) (lv2 := [(8, .int v65), (7, .int (M.2.2.1 r32 ((M.2.2.1 r17 ((M.2.2.1 r4 (x4.toNatClampNeg)).toNatClampNeg)).toNatClampNeg))), (6, .int (M.2.2.1 r17 ((M.2.2.1 r17 ((M.2.2.1 r4 (x4.toNatClampNeg)).toNatClampNeg)).toNatClampNeg))), (5, .int (M.2.2.1 r4 (x4.toNatClampNeg))), (0, .ref a0), (1, .int x1), (2, .int x2), (3, .int x3), (4, .int x4)]) rfl ?_
        refine a_aload_n dX11_byOne_123 rfl rfl ?_
        refine a_iload_n dX11_byOne_124 rfl rfl ?_
        refine a_iload dX11_byOne_125 rfl ?_
        refine a_iload dX11_byOne_127 rfl ?_
        obtain ⟨⟨ga70, gs71⟩, h⟩ := gd_t h
        obtain ⟨v72, M73, e74, h⟩ := bnd2_t h
        obtain ⟨n75, en76, e74⟩ := hc_X11_canProve e74
        refine e_callV (As := [.int x2, .int v65, .int (M.2.2.1 r32 ((M.2.2.1 r17 ((M.2.2.1 r4 (x4.toNatClampNeg)).toNatClampNeg)).toNatClampNeg))]) (st := []) (a := a0) (ci := 11) false dX11_byOne_129 mw_X11_canProve (Or.inl ⟨rfl, ml_X11_447⟩) im_X11_canProve se_X11_canProve (by decide) ga70 gs71 rfl (Nat.le_of_ble_eq_true rfl) en76 e74 ?_
        refine a_if_ne 138 dX11_byOne_132 (by decide) (fun c77 => ?_) (fun c77 => ?_)
        · replace h := ite_f c77 h
          refine a_aload_n dX11_byOne_138 rfl rfl ?_
          refine a_iload_n dX11_byOne_139 rfl rfl ?_
          refine a_iload_n dX11_byOne_140 rfl rfl ?_
          refine a_iload dX11_byOne_141 rfl ?_
          obtain ⟨⟨ga78, gs79⟩, h⟩ := gd_t h
          obtain ⟨v80, M81, e82, h⟩ := bnd2_t h
          obtain ⟨n83, en84, e82⟩ := cal_t e82
          refine e_callV (As := [.int x1, .int x2, .int x4]) (st := []) (a := a0) (ci := 11) false dX11_byOne_143 mw_X11_copiesHad (Or.inl ⟨rfl, ml_X11_441⟩) im_X11_copiesHad se_X11_copiesHad (by decide) ga78 gs79 rfl (Nat.le_of_ble_eq_true rfl) en84 (s_X11_copiesHad e82) ?_
          refine a_istore dX11_byOne_146 (Nat.le_of_ble_eq_true rfl) (lv2 := [(8, .int v80), (7, .int (M.2.2.1 r32 ((M.2.2.1 r17 ((M.2.2.1 r4 (x4.toNatClampNeg)).toNatClampNeg)).toNatClampNeg))), (6, .int (M.2.2.1 r17 ((M.2.2.1 r17 ((M.2.2.1 r4 (x4.toNatClampNeg)).toNatClampNeg)).toNatClampNeg))), (5, .int (M.2.2.1 r4 (x4.toNatClampNeg))), (0, .ref a0), (1, .int x1), (2, .int x2), (3, .int x3), (4, .int x4)]) rfl ?_
          refine a_aload_n dX11_byOne_148 rfl rfl ?_
          refine a_iload_n dX11_byOne_149 rfl rfl ?_
          refine a_aload_n dX11_byOne_150 rfl rfl ?_
          refine a_iload_n dX11_byOne_151 rfl rfl ?_
          refine a_iload dX11_byOne_152 rfl ?_
          refine a_aload_n dX11_byOne_154 rfl rfl ?_
          obtain ⟨⟨ga85, gs86⟩, h⟩ := gd_t h
          obtain ⟨r87, e88, h⟩ := bnd_t h
          refine a_get (v := .ref r87) dX11_byOne_155 fl_11_20 ga85 gs86 (gvR e88 rfl) ?_
          refine a_iload dX11_byOne_158 rfl ?_
          obtain ⟨⟨ga89, gn90, gs91, gi92⟩, h⟩ := gd_t h
          refine a_iaload dX11_byOne_160 ga89 gs91 gi92 ?_
          obtain ⟨v93, M94, e95, h⟩ := bnd2_t h
          obtain ⟨n96, en97, e95⟩ := cal_t e95
          refine e_callV (As := [.int x2, .int v80, .int (M81.2.2.1 r87 ((M.2.2.1 r4 (x4.toNatClampNeg)).toNatClampNeg))]) (st := [.int x2, .ref a0]) (a := a0) (ci := 11) false dX11_byOne_161 mw_X11_withHad (Or.inl ⟨rfl, ml_X11_444⟩) im_X11_withHad se_X11_withHad (by decide) ga85 gs86 rfl (Nat.le_of_ble_eq_true rfl) en97 (s_X11_withHad e95) ?_
          refine a_iload_n dX11_byOne_164 rfl rfl ?_
          obtain ⟨⟨ga98, gs99⟩, h⟩ := gd_t h
          obtain ⟨v100, M101, e102, h⟩ := bnd2_t h
          obtain ⟨n103, en104, e102⟩ := hc_X11_canProve e102
          refine e_callV (As := [.int x2, .int v93, .int x3]) (st := []) (a := a0) (ci := 11) false dX11_byOne_165 mw_X11_canProve (Or.inl ⟨rfl, ml_X11_447⟩) im_X11_canProve se_X11_canProve (by decide) ga98 gs99 rfl (Nat.le_of_ble_eq_true rfl) en104 e102 ?_
          obtain ⟨gb105, h⟩ := gd_t h
          exact a_zret dX11_byOne_168 rfl gb105 (hR _ _ h)
        · replace h := ite_t c77 h
          refine a_goto 169 dX11_byOne_135 (by decide) ?_
          refine a_iinc (v := (x4 + 1)) dX11_byOne_169 rfl (by first | rfl | decide) (Nat.le_of_ble_eq_true rfl) (lv2 := [(4, .int (x4 + 1)), (8, .int v65), (7, .int (M.2.2.1 r32 ((M.2.2.1 r17 ((M.2.2.1 r4 (x4.toNatClampNeg)).toNatClampNeg)).toNatClampNeg))), (6, .int (M.2.2.1 r17 ((M.2.2.1 r17 ((M.2.2.1 r4 (x4.toNatClampNeg)).toNatClampNeg)).toNatClampNeg))), (5, .int (M.2.2.1 r4 (x4.toNatClampNeg))), (0, .ref a0), (1, .int x1), (2, .int x2), (3, .int x3)]) rfl ?_
          refine a_goto 3 dX11_byOne_172 (by decide) ?_
          exact a_lv (lv2 := [(0, .ref a0), (1, .int x1), (2, .int x2), (3, .int x3), (4, .int (x4 + 1))]) (fa_cons rfl (fa_cons rfl (fa_cons rfl (fa_cons rfl (fa_cons rfl fa_nil))))) (hJ _ _ _ h)
      · replace h := ite_f c27 h
        refine a_goto 169 dX11_byOne_47 (by decide) ?_
        refine a_iinc (v := (x4 + 1)) dX11_byOne_169 rfl (by first | rfl | decide) (Nat.le_of_ble_eq_true rfl) (lv2 := [(4, .int (x4 + 1)), (5, .int (M.2.2.1 r4 (x4.toNatClampNeg))), (0, .ref a0), (1, .int x1), (2, .int x2), (3, .int x3)]) rfl ?_
        refine a_goto 3 dX11_byOne_172 (by decide) ?_
        exact a_lv (lv2 := [(0, .ref a0), (1, .int x1), (2, .int x2), (3, .int x3), (4, .int (x4 + 1))]) (fa_cons rfl (fa_cons rfl (fa_cons rfl (fa_cons rfl (fa_cons rfl fa_nil))))) (hJ _ _ _ h)
set_option maxHeartbeats 4000000 in
set_option maxRecDepth 100000 in
noncomputable def st_X11_byOne (cl : Nat → List Value → Mem → Option (Int32 × Mem)) (n : Nat) (s : Sg) : Option (Sg ⊕ (Int32 × Mem)) := if s.1 = 0 then vR s.2.1 none (fun a0 t => vI t none (fun x1 t => vI t none (fun x2 t => vI t none (fun x3 t => vE t none (T_X11_byOne_0 (fun c l M => some (.inl (c, l, M))) (fun v M => some (.inr (v, M))) none cl n a0 x1 x2 x3 s.2.2))))) else if s.1 = 3 then vR s.2.1 none (fun a0 t => vI t none (fun x1 t => vI t none (fun x2 t => vI t none (fun x3 t => vI t none (fun x4 t => vE t none (T_X11_byOne_3 (fun c l M => some (.inl (c, l, M))) (fun v M => some (.inr (v, M))) none cl n a0 x1 x2 x3 x4 s.2.2)))))) else none
noncomputable abbrev g_X11_byOne_0 (cl : Nat → List Value → Mem → Option (Int32 × Mem)) (n : Nat) (a0 : Nat) (x1 : Int32) (x2 : Int32) (x3 : Int32) (M : Mem) : Option (Int32 × Mem) := lp (st_X11_byOne cl n) (0, [.ref a0, .int x1, .int x2, .int x3], M)
set_option maxHeartbeats 4000000 in
set_option maxRecDepth 100000 in
theorem ge_X11_byOne_0 (cl : Nat → List Value → Mem → Option (Int32 × Mem)) (n : Nat) (a0 : Nat) (x1 : Int32) (x2 : Int32) (x3 : Int32) (M : Mem) : g_X11_byOne_0 cl n a0 x1 x2 x3 M = T_X11_byOne_0 (fun c l M => lp (st_X11_byOne cl n) (c, l, M)) (fun v M => some (v, M)) none cl n a0 x1 x2 x3 M := (lp_eq _ _).trans (n_X11_byOne_0 (lpK (st_X11_byOne cl n)) (fun c l M => some (.inl (c, l, M))) (fun v M => some (.inr (v, M))) none cl n a0 x1 x2 x3 M)
noncomputable abbrev g_X11_byOne_3 (cl : Nat → List Value → Mem → Option (Int32 × Mem)) (n : Nat) (a0 : Nat) (x1 : Int32) (x2 : Int32) (x3 : Int32) (x4 : Int32) (M : Mem) : Option (Int32 × Mem) := lp (st_X11_byOne cl n) (3, [.ref a0, .int x1, .int x2, .int x3, .int x4], M)
set_option maxHeartbeats 4000000 in
set_option maxRecDepth 100000 in
theorem ge_X11_byOne_3 (cl : Nat → List Value → Mem → Option (Int32 × Mem)) (n : Nat) (a0 : Nat) (x1 : Int32) (x2 : Int32) (x3 : Int32) (x4 : Int32) (M : Mem) : g_X11_byOne_3 cl n a0 x1 x2 x3 x4 M = T_X11_byOne_3 (fun c l M => lp (st_X11_byOne cl n) (c, l, M)) (fun v M => some (v, M)) none cl n a0 x1 x2 x3 x4 M := (lp_eq _ _).trans (n_X11_byOne_3 (lpK (st_X11_byOne cl n)) (fun c l M => some (.inl (c, l, M))) (fun v M => some (.inr (v, M))) none cl n a0 x1 x2 x3 x4 M)
noncomputable def b_X11_byOne (cl : Nat → List Value → Mem → Option (Int32 × Mem)) (n : Nat) (a0 : Nat) (x1 : Int32) (x2 : Int32) (x3 : Int32) (M : Mem) : Option (Int32 × Mem) := g_X11_byOne_0 cl n a0 x1 x2 x3 M
set_option maxHeartbeats 4000000 in
set_option maxRecDepth 100000 in
theorem sb_X11_byOne {X : Nat × (Nat → Int32)} {al : Bool} {n : Nat} {cl : Nat → List Value → Mem → Option (Int32 × Mem)} (hc_X11_canProve : ∀ {a0 : Nat} {x1 : Int32} {x2 : Int32} {x3 : Int32} {M : Mem} {v : Int32} {M1 : Mem}, cl 0 [.ref a0, .int x1, .int x2, .int x3] M = some (v, M1) → ∃ k, n = k + 1 ∧ AE yX11_canProve cX11_canProve 9 (some .boolean) al k X [.ref a0, .int x1, .int x2, .int x3] M (some (.int v)) M1) (hc_X11_byOne : ∀ {a0 : Nat} {x1 : Int32} {x2 : Int32} {x3 : Int32} {M : Mem} {v : Int32} {M1 : Mem}, cl 1 [.ref a0, .int x1, .int x2, .int x3] M = some (v, M1) → ∃ k, n = k + 1 ∧ AE yX11_byOne cX11_byOne 9 (some .boolean) al k X [.ref a0, .int x1, .int x2, .int x3] M (some (.int v)) M1) {a0 : Nat} {x1 : Int32} {x2 : Int32} {x3 : Int32} {M : Mem} {v : Int32} {M1 : Mem} (h : b_X11_byOne cl n a0 x1 x2 x3 M = some (v, M1)) : AE yX11_byOne cX11_byOne 9 (some .boolean) al n X [.ref a0, .int x1, .int x2, .int x3] M (some (.int v)) M1 := by
  refine AM.of false (by decide +kernel) (by intro h; cases h) (Nat.le_of_ble_eq_true rfl) ?_
  refine lp_snd (P := fun s r => PW_X11_byOne X al n (fun v M2 => v = (some (.int r.1)) ∧ M2 = r.2) s.1 s.2.1 s.2.2) ?_ h
  clear h
  rintro ⟨c, l, M⟩ r h
  unfold st_X11_byOne at h
  rcases ite_p h with ⟨e, h⟩ | ⟨e, h⟩
  · replace e : c = 0 := e
    subst e
    obtain ⟨a0, tt0, e, h⟩ := vR_p id h
    replace e : l = _ := e
    subst e
    obtain ⟨x1, tt1, e, h⟩ := vI_p id h
    replace e : tt0 = _ := e
    subst e
    obtain ⟨x2, tt2, e, h⟩ := vI_p id h
    replace e : tt1 = _ := e
    subst e
    obtain ⟨x3, tt3, e, h⟩ := vI_p id h
    replace e : tt2 = _ := e
    subst e
    obtain ⟨e, h⟩ := vE_p id h
    replace e : tt3 = [] := e
    subst e
    exact w_X11_byOne_0 (J := fun c l M => PW_X11_byOne X al n (fun v M2 => v = (some (.int r.1)) ∧ M2 = r.2) c l M) (R := fun v M => (v, M) = r) (fun _ _ _ h => h) (fun v M h => by cases h; exact ⟨rfl, rfl⟩) hc_X11_canProve hc_X11_byOne ((n_X11_byOne_0 (lpP (fun (s : Sg) (r : Int32 × Mem) => PW_X11_byOne X al n (fun v M2 => v = (some (.int r.1)) ∧ M2 = r.2) s.1 s.2.1 s.2.2) r) (fun c l M => some (.inl (c, l, M))) (fun v M => some (.inr (v, M))) none cl n a0 x1 x2 x3 M).mp h)
  rcases ite_p h with ⟨e, h⟩ | ⟨e, h⟩
  · replace e : c = 3 := e
    subst e
    obtain ⟨a0, tt0, e, h⟩ := vR_p id h
    replace e : l = _ := e
    subst e
    obtain ⟨x1, tt1, e, h⟩ := vI_p id h
    replace e : tt0 = _ := e
    subst e
    obtain ⟨x2, tt2, e, h⟩ := vI_p id h
    replace e : tt1 = _ := e
    subst e
    obtain ⟨x3, tt3, e, h⟩ := vI_p id h
    replace e : tt2 = _ := e
    subst e
    obtain ⟨x4, tt4, e, h⟩ := vI_p id h
    replace e : tt3 = _ := e
    subst e
    obtain ⟨e, h⟩ := vE_p id h
    replace e : tt4 = [] := e
    subst e
    exact w_X11_byOne_3 (J := fun c l M => PW_X11_byOne X al n (fun v M2 => v = (some (.int r.1)) ∧ M2 = r.2) c l M) (R := fun v M => (v, M) = r) (fun _ _ _ h => h) (fun v M h => by cases h; exact ⟨rfl, rfl⟩) hc_X11_canProve hc_X11_byOne ((n_X11_byOne_3 (lpP (fun (s : Sg) (r : Int32 × Mem) => PW_X11_byOne X al n (fun v M2 => v = (some (.int r.1)) ∧ M2 = r.2) s.1 s.2.1 s.2.2) r) (fun c l M => some (.inl (c, l, M))) (fun v M => some (.inr (v, M))) none cl n a0 x1 x2 x3 x4 M).mp h)
  · exact h.elim

noncomputable def F_X11_canProve (cl : Nat → List Value → Mem → Option (Int32 × Mem)) (n k : Nat) (l : List Value) (M : Mem) : Option (Int32 × Mem) := if k = 0 then vR l none (fun a0 t => vI t none (fun x1 t => vI t none (fun x2 t => vI t none (fun x3 t => vE t none (b_X11_canProve cl n a0 x1 x2 x3 M))))) else if k = 1 then vR l none (fun a0 t => vI t none (fun x1 t => vI t none (fun x2 t => vI t none (fun x3 t => vE t none (b_X11_byOne cl n a0 x1 x2 x3 M))))) else none
noncomputable def r_X11_canProve : Nat → Nat → List Value → Mem → Option (Int32 × Mem)
  | 0 => F_X11_canProve (fun _ _ _ => none) 0
  | n + 1 => F_X11_canProve (r_X11_canProve n) (n + 1)
noncomputable abbrev f_X11_canProve (n : Nat) (a0 : Nat) (x1 : Int32) (x2 : Int32) (x3 : Int32) (M : Mem) : Option (Int32 × Mem) := r_X11_canProve n 0 [.ref a0, .int x1, .int x2, .int x3] M
noncomputable abbrev f_X11_byOne (n : Nat) (a0 : Nat) (x1 : Int32) (x2 : Int32) (x3 : Int32) (M : Mem) : Option (Int32 × Mem) := r_X11_canProve n 1 [.ref a0, .int x1, .int x2, .int x3] M
set_option maxHeartbeats 4000000 in
set_option maxRecDepth 100000 in
theorem sr_X11_canProve {X : Nat × (Nat → Int32)} {al : Bool} : ∀ n : Nat, (∀ {a0 : Nat} {x1 : Int32} {x2 : Int32} {x3 : Int32} {M : Mem} {v : Int32} {M1 : Mem}, f_X11_canProve n a0 x1 x2 x3 M = some (v, M1) → AE yX11_canProve cX11_canProve 9 (some .boolean) al n X [.ref a0, .int x1, .int x2, .int x3] M (some (.int v)) M1) ∧ (∀ {a0 : Nat} {x1 : Int32} {x2 : Int32} {x3 : Int32} {M : Mem} {v : Int32} {M1 : Mem}, f_X11_byOne n a0 x1 x2 x3 M = some (v, M1) → AE yX11_byOne cX11_byOne 9 (some .boolean) al n X [.ref a0, .int x1, .int x2, .int x3] M (some (.int v)) M1) := by
  intro n
  induction n with
  | zero => exact ⟨(fun h => sb_X11_canProve (cl := fun _ _ _ => none) (fun h => by cases h) (fun h => by cases h) h), (fun h => sb_X11_byOne (cl := fun _ _ _ => none) (fun h => by cases h) (fun h => by cases h) h)⟩
  | succ n ih => exact ⟨(fun h => sb_X11_canProve (cl := r_X11_canProve n) (fun h => ⟨n, rfl, ih.1 h⟩) (fun h => ⟨n, rfl, ih.2 h⟩) h), (fun h => sb_X11_byOne (cl := r_X11_canProve n) (fun h => ⟨n, rfl, ih.1 h⟩) (fun h => ⟨n, rfl, ih.2 h⟩) h)⟩
theorem s_X11_canProve {X : Nat × (Nat → Int32)} {al : Bool} {n : Nat} {a0 : Nat} {x1 : Int32} {x2 : Int32} {x3 : Int32} {M : Mem} {v : Int32} {M1 : Mem} (h : f_X11_canProve n a0 x1 x2 x3 M = some (v, M1)) : AE yX11_canProve cX11_canProve 9 (some .boolean) al n X [.ref a0, .int x1, .int x2, .int x3] M (some (.int v)) M1 := (sr_X11_canProve n).1 h
theorem s_X11_byOne {X : Nat × (Nat → Int32)} {al : Bool} {n : Nat} {a0 : Nat} {x1 : Int32} {x2 : Int32} {x3 : Int32} {M : Mem} {v : Int32} {M1 : Mem} (h : f_X11_byOne n a0 x1 x2 x3 M = some (v, M1)) : AE yX11_byOne cX11_byOne 9 (some .boolean) al n X [.ref a0, .int x1, .int x2, .int x3] M (some (.int v)) M1 := (sr_X11_canProve n).2 h
