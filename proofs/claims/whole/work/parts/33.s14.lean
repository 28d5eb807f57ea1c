/-! METHODS AS FUNCTIONS, written by wip/gen/shallow.py -/
def ix_X11_readTerm (c : Nat) : List Nat := if c = 0 then [0] else if c = 87 then [0, 4, 5] else if c = 125 then [0, 5] else if c = 145 then [0, 5] else if c = 164 then [0, 5, 6] else []
def PW_X11_readTerm (X : Nat × (Nat → Int32)) (al : Bool) (n : Nat) (Q : Option Value → Mem → Prop) (c : Nat) (l : List Value) (M : Mem) : Prop := AW X (RX11, cX11_readTerm, 7, none, false, al, n) 0 0 c (List.zip (ix_X11_readTerm c) l) (l.drop (ix_X11_readTerm c).length) M Q
set_option maxHeartbeats 4000000 in
set_option maxRecDepth 100000 in
noncomputable def T_X11_readTerm_0.{u} {α : Sort u} (J : Nat → List Value → Mem → α) (R : Unit → Mem → α) (N : α) (cl : Nat → List Value → Mem → Option (Unit × Mem)) (n : Nat) (a0 : Nat) (M : Mem) : α := gd (fO M a0 11) N (if (M.2.2.1 a0 30) = 0 then bnd2 (cal n (fun n => f_X11_wordNext n a0 M)) N (fun v4 M5 => gd (fO M5 a0 11) N (bnd2 (cal n (fun n => f_X11_nameHere n a0 M5)) N (fun v11 M12 => if v11 ≤ 0 then bnd2 (cal n (fun n => f_X11_isIn n (Int32.toInt64 v4) (13) (21) M12)) N (fun v17 M18 => if v17 = 0 then gd (fO M18 a0 11) N (bnd2 (cal n (fun n => f_X11_fails n a0 1 (M5.2.2.1 a0 29) M18)) N (fun _ M38 => R () M38)) else gd (fO M18 a0 11) N (bnd2 (cal n (fun n => f_X11_adds n a0 (M5.2.2.1 a0 29) ((v4 - 13) + 1) (-1) M18)) N (fun _ M25 => if ((v4 - 13) + 1) = 1 then gd (fO M25 a0 11) N (bnd2 (cal n (fun n => f_X11_tells0 n a0 M25)) N (fun _ M32 => J 87 [.ref a0, .int (M18.2.2.1 a0 24), .int ((v4 - 13) + 1)] M32)) else J 87 [.ref a0, .int (M18.2.2.1 a0 24), .int ((v4 - 13) + 1)] M25))) else gd (fO M12 a0 11) N (bnd2 (cal n (fun n => f_X11_readName0 n a0 (M5.2.2.1 a0 29) v11 M12)) N (fun _ M44 => R () M44))))) else R () M)
set_option maxHeartbeats 4000000 in
set_option maxRecDepth 100000 in
theorem n_X11_readTerm_0.{u, v} {α : Sort u} {β : Sort v} (h : α → β) (J : Nat → List Value → Mem → α) (R : Unit → Mem → α) (N : α) (cl : Nat → List Value → Mem → Option (Unit × Mem)) (n : Nat) (a0 : Nat) (M : Mem) : h (T_X11_readTerm_0 J R N cl n a0 M) = T_X11_readTerm_0 (fun c l M => h (J c l M)) (fun v M => h (R v M)) (h N) cl n a0 M := by
  simp only [T_X11_readTerm_0, nat_ite h, nat_gd h, nat_bnd h, nat_bnd2 h]
set_option maxHeartbeats 4000000 in
set_option maxRecDepth 100000 in
theorem w_X11_readTerm_0 {X : Nat × (Nat → Int32)} {al : Bool} {n : Nat} {Q : Option Value → Mem → Prop} {J : Nat → List Value → Mem → Prop} (hJ : ∀ c l M, J c l M → PW_X11_readTerm X al n Q c l M) {R : Unit → Mem → Prop} (hR : ∀ v M, R v M → Q none M) {cl : Nat → List Value → Mem → Option (Unit × Mem)} (hc_X11_readTerm : ∀ {a0 : Nat} {M : Mem} {v : Unit} {M1 : Mem}, cl 0 [.ref a0] M = some (v, M1) → ∃ k, n = k + 1 ∧ AE yX11_readTerm cX11_readTerm 7 none al k X [.ref a0] M none M1) {a0 : Nat} {M : Mem} (h : T_X11_readTerm_0 J R False cl n a0 M) : AW X (RX11, cX11_readTerm, 7, none, false, al, n) 0 0 0 [(0, .ref a0)] [] M Q := by
  unfold T_X11_readTerm_0 at h
  refine a_aload_n dX11_readTerm_0 rfl rfl ?_
  obtain ⟨⟨ga1, gs2⟩, h⟩ := gd_t h
  refine a_get (v := .int (M.2.2.1 a0 30)) dX11_readTerm_1 fl_11_163 ga1 gs2 rfl ?_
  refine a_if_eq 8 dX11_readTerm_4 (by decide) (fun c3 => ?_) (fun c3 => ?_)
  · replace h := ite_t c3 h
    refine a_aload_n dX11_readTerm_8 rfl rfl ?_
    obtain ⟨v4, M5, e6, h⟩ := bnd2_t h
    obtain ⟨n7, en8, e6⟩ := cal_t e6
    refine e_callV (As := []) (st := []) (a := a0) (ci := 11) false dX11_readTerm_9 mw_X11_wordNext (Or.inl ⟨rfl, ml_X11_204⟩) im_X11_wordNext se_X11_wordNext (by decide) ga1 gs2 rfl (Nat.le_of_ble_eq_true rfl) en8 (s_X11_wordNext e6) ?_
    refine a_istore_n dX11_readTerm_12 rfl (Nat.le_of_ble_eq_true rfl) (lv2 := [(1, .int v4), (0, .ref a0)]) rfl ?_
    refine a_aload_n dX11_readTerm_13 rfl rfl ?_
    obtain ⟨⟨ga9, gs10⟩, h⟩ := gd_t h
    refine a_get (v := .int (M5.2.2.1 a0 29)) dX11_readTerm_14 fl_11_157 ga9 gs10 rfl ?_
    refine a_istore_n dX11_readTerm_17 rfl (Nat.le_of_ble_eq_true rfl) (lv2 := [(2, .int (M5.2.2.1 a0 29)), (1, .int v4), (0, .ref a0)]) rfl ?_
    refine a_aload_n dX11_readTerm_18 rfl rfl ?_
    obtain ⟨v11, M12, e13, h⟩ := bnd2_t h
    obtain ⟨n14, en15, e13⟩ := cal_t e13
    refine e_callV (As := []) (st := []) (a := a0) (ci := 11) false dX11_readTerm_19 mw_X11_nameHere (Or.inl ⟨rfl, ml_X11_221⟩) im_X11_nameHere se_X11_nameHere (by decide) ga9 gs10 rfl (Nat.le_of_ble_eq_true rfl) en15 (s_X11_nameHere e13) ?_
    refine a_istore_n dX11_readTerm_22 rfl (Nat.le_of_ble_eq_true rfl) (lv2 := [(3, .int v11), (2, .int (M5.2.2.1 a0 29)), (1, .int v4), (0, .ref a0)]) rfl ?_
    refine a_iload_n dX11_readTerm_23 rfl rfl ?_
    refine a_if_le 34 dX11_readTerm_24 (by decide) (fun c16 => ?_) (fun c16 => ?_)
    · replace h := ite_t c16 h
      refine a_iload_n dX11_readTerm_34 rfl rfl ?_
      refine a_i2l dX11_readTerm_35 ?_
      refine a_ldc2 dX11_readTerm_36 co_X11_261 ?_
      refine a_ldc2 dX11_readTerm_39 co_X11_263 ?_
      obtain ⟨v17, M18, e19, h⟩ := bnd2_t h
      obtain ⟨n20, en21, e19⟩ := cal_t e19
      refine e_callS (As := [.long (Int32.toInt64 v4), .long (13), .long (21)]) (st := []) false dX11_readTerm_42 mw_X11_isIn (Or.inl ⟨rfl, ml_X11_180⟩) sm_X11_isIn rfl (Nat.le_of_ble_eq_true rfl) en21 (s_X11_isIn e19) ?_
      refine a_if_ne 55 dX11_readTerm_45 (by decide) (fun c22 => ?_) (fun c22 => ?_)
      · replace h := ite_f c22 h
        refine a_aload_n dX11_readTerm_55 rfl rfl ?_
        obtain ⟨⟨ga23, gs24⟩, h⟩ := gd_t h
        refine a_get (v := .int (M18.2.2.1 a0 24)) dX11_readTerm_56 fl_11_151 ga23 gs24 rfl ?_
        refine a_istore dX11_readTerm_59 (Nat.le_of_ble_eq_true rfl) (lv2 := [(4, .int (M18.2.2.1 a0 24)), (3, .int v11), (2, .int (M5.2.2.1 a0 29)), (1, .int v4), (0, .ref a0)]) rfl ?_
        refine a_iload_n dX11_readTerm_61 rfl rfl ?_
        refine a_bipush (v := 13) dX11_readTerm_62 (by decide) ?_
        refine a_isub dX11_readTerm_64 ?_
        refine a_iconst (v := 1) dX11_readTerm_65 (by decide) ?_
        refine a_iadd dX11_readTerm_66 ?_
        refine a_istore dX11_readTerm_67 (Nat.le_of_ble_eq_true rfl) (lv2 := [(5, .int ((v4 - 13) + 1)), (4, .int (M18.2.2.1 a0 24)), (3, .int v11), (2, .int (M5.2.2.1 a0 29)), (1, .int v4), (0, .ref a0)]) rfl ?_
        refine a_aload_n dX11_readTerm_69 rfl rfl ?_
        refine a_iload_n dX11_readTerm_70 rfl rfl ?_
        refine a_iload dX11_readTerm_71 rfl ?_
        refine a_iconst (v := -1) dX11_readTerm_73 (by decide) ?_
        obtain ⟨_, M25, e26, h⟩ := bnd2_t h
        obtain ⟨n27, en28, e26⟩ := cal_t e26
        refine e_callV (As := [.int (M5.2.2.1 a0 29), .int ((v4 - 13) + 1), .int (-1)]) (st := []) (a := a0) (ci := 11) false dX11_readTerm_74 mw_X11_adds (Or.inl ⟨rfl, ml_X11_254⟩) im_X11_adds se_X11_adds (by decide) ga23 gs24 rfl (Nat.le_of_ble_eq_true rfl) en28 (s_X11_adds e26) ?_
        refine a_iload dX11_readTerm_77 rfl ?_
        refine a_iconst (v := 1) dX11_readTerm_79 (by decide) ?_
        refine a_icmp_ne 87 dX11_readTerm_80 (by decide) (fun c29 => ?_) (fun c29 => ?_)
        · replace h := ite_f c29 h
          exact a_lv (lv2 := [(0, .ref a0), (4, .int (M18.2.2.1 a0 24)), (5, .int ((v4 - 13) + 1))]) (fa_cons rfl (fa_cons rfl (fa_cons rfl fa_nil))) (hJ _ _ _ h)
        · replace h := ite_t c29 h
          refine a_aload_n dX11_readTerm_83 rfl rfl ?_
          obtain ⟨⟨ga30, gs31⟩, h⟩ := gd_t h
          obtain ⟨_, M32, e33, h⟩ := bnd2_t h
          obtain ⟨n34, en35, e33⟩ := cal_t e33
          refine e_callV (As := []) (st := []) (a := a0) (ci := 11) false dX11_readTerm_84 mw_X11_tells0 (Or.inl ⟨rfl, ml_X11_265⟩) im_X11_tells0 se_X11_tells0 (by decide) ga30 gs31 rfl (Nat.le_of_ble_eq_true rfl) en35 (s_X11_tells0 e33) ?_
          exact a_lv (lv2 := [(0, .ref a0), (4, .int (M18.2.2.1 a0 24)), (5, .int ((v4 - 13) + 1))]) (fa_cons rfl (fa_cons rfl (fa_cons rfl fa_nil))) (hJ _ _ _ h)
      · replace h := ite_t c22 h
        refine a_aload_n dX11_readTerm_48 rfl rfl ?_
        refine a_iconst (v := 1) dX11_readTerm_49 (by decide) ?_
        refine a_iload_n dX11_readTerm_50 rfl rfl ?_
        obtain ⟨⟨ga36, gs37⟩, h⟩ := gd_t h
        obtain ⟨_, M38, e39, h⟩ := bnd2_t h
        obtain ⟨n40, en41, e39⟩ := cal_t e39
        refine e_callV (As := [.int 1, .int (M5.2.2.1 a0 29)]) (st := []) (a := a0) (ci := 11) false dX11_readTerm_51 mw_X11_fails (Or.inl ⟨rfl, ml_X11_209⟩) im_X11_fails se_X11_fails (by decide) ga36 gs37 rfl (Nat.le_of_ble_eq_true rfl) en41 (s_X11_fails e39) ?_
        exact a_vret dX11_readTerm_54 rfl (hR _ _ h)
    · replace h := ite_f c16 h
      refine a_aload_n dX11_readTerm_27 rfl rfl ?_
      refine a_iload_n dX11_readTerm_28 rfl rfl ?_
      refine a_iload_n dX11_readTerm_29 rfl rfl ?_
      obtain ⟨⟨ga42, gs43⟩, h⟩ := gd_t h
      obtain ⟨_, M44, e45, h⟩ := bnd2_t h
      obtain ⟨n46, en47, e45⟩ := cal_t e45
      refine e_callV (As := [.int (M5.2.2.1 a0 29), .int v11]) (st := []) (a := a0) (ci := 11) false dX11_readTerm_30 mw_X11_readName0 (Or.inl ⟨rfl, ml_X11_258⟩) im_X11_readName0 se_X11_readName0 (by decide) ga42 gs43 rfl (Nat.le_of_ble_eq_true rfl) en47 (s_X11_readName0 e45) ?_
      exact a_vret dX11_readTerm_33 rfl (hR _ _ h)
  · replace h := ite_f c3 h
    exact a_vret dX11_readTerm_7 rfl (hR _ _ h)
set_option maxHeartbeats 4000000 in
set_option maxRecDepth 100000 in
noncomputable def T_X11_readTerm_87.{u} {α : Sort u} (J : Nat → List Value → Mem → α) (R : Unit → Mem → α) (N : α) (cl : Nat → List Value → Mem → Option (Unit × Mem)) (n : Nat) (a0 : Nat) (x4 : Int32) (x5 : Int32) (M : Mem) : α := if x5 = 1 then gd (fO M a0 11) N (bnd (M.2.2.2.2 a0 21) N (fun r4 => bnd2 (cal n (fun n => f_X11_formulaRead n a0 M)) N (fun v6 M7 => gd (fA M7 r4 1 x4) N (J 125 [.ref a0, .int x5] (wI M7 r4 (x4.toNatClampNeg) v6))))) else if x5 = 6 then gd (fO M a0 11) N (bnd (M.2.2.2.2 a0 21) N (fun r18 => bnd2 (cal n (fun n => f_X11_formulaRead n a0 M)) N (fun v20 M21 => gd (fA M21 r18 1 x4) N (J 125 [.ref a0, .int x5] (wI M21 r18 (x4.toNatClampNeg) v20))))) else if x5 = 7 then gd (fO M a0 11) N (bnd (M.2.2.2.2 a0 21) N (fun r32 => bnd2 (cal n (fun n => f_X11_formulaRead n a0 M)) N (fun v34 M35 => gd (fA M35 r32 1 x4) N (J 125 [.ref a0, .int x5] (wI M35 r32 (x4.toNatClampNeg) v34))))) else if x5 = 9 then gd (fO M a0 11) N (bnd (M.2.2.2.2 a0 21) N (fun r46 => bnd2 (cal n (fun n => f_X11_formulaRead n a0 M)) N (fun v48 M49 => gd (fA M49 r46 1 x4) N (J 125 [.ref a0, .int x5] (wI M49 r46 (x4.toNatClampNeg) v48))))) else J 125 [.ref a0, .int x5] M
set_option maxHeartbeats 4000000 in
set_option maxRecDepth 100000 in
theorem n_X11_readTerm_87.{u, v} {α : Sort u} {β : Sort v} (h : α → β) (J : Nat → List Value → Mem → α) (R : Unit → Mem → α) (N : α) (cl : Nat → List Value → Mem → Option (Unit × Mem)) (n : Nat) (a0 : Nat) (x4 : Int32) (x5 : Int32) (M : Mem) : h (T_X11_readTerm_87 J R N cl n a0 x4 x5 M) = T_X11_readTerm_87 (fun c l M => h (J c l M)) (fun v M => h (R v M)) (h N) cl n a0 x4 x5 M := by
  simp only [T_X11_readTerm_87, nat_ite h, nat_gd h, nat_bnd h, nat_bnd2 h]
set_option maxHeartbeats 4000000 in
set_option maxRecDepth 100000 in
theorem w_X11_readTerm_87 {X : Nat × (Nat → Int32)} {al : Bool} {n : Nat} {Q : Option Value → Mem → Prop} {J : Nat → List Value → Mem → Prop} (hJ : ∀ c l M, J c l M → PW_X11_readTerm X al n Q c l M) {R : Unit → Mem → Prop} (hR : ∀ v M, R v M → Q none M) {cl : Nat → List Value → Mem → Option (Unit × Mem)} (hc_X11_readTerm : ∀ {a0 : Nat} {M : Mem} {v : Unit} {M1 : Mem}, cl 0 [.ref a0] M = some (v, M1) → ∃ k, n = k + 1 ∧ AE yX11_readTerm cX11_readTerm 7 none al k X [.ref a0] M none M1) {a0 : Nat} {x4 : Int32} {x5 : Int32} {M : Mem} (h : T_X11_readTerm_87 J R False cl n a0 x4 x5 M) : AW X (RX11, cX11_readTerm, 7, none, false, al, n) 0 0 87 [(0, .ref a0), (4, .int x4), (5, .int x5)] [] M Q := by
  unfold T_X11_readTerm_87 at h
  refine a_iload dX11_readTerm_87 rfl ?_
  refine a_iconst (v := 1) dX11_readTerm_89 (by decide) ?_
  refine a_icmp_eq 114 dX11_readTerm_90 (by decide) (fun c1 => ?_) (fun c1 => ?_)
  · replace h := ite_t c1 h
    refine a_aload_n dX11_readTerm_114 rfl rfl ?_
    obtain ⟨⟨ga2, gs3⟩, h⟩ := gd_t h
    obtain ⟨r4, e5, h⟩ := bnd_t h
    refine a_get (v := .ref r4) dX11_readTerm_115 fl_11_62 ga2 gs3 (gvR e5 rfl) ?_
    refine a_iload dX11_readTerm_118 rfl ?_
    refine a_aload_n dX11_readTerm_120 rfl rfl ?_
    obtain ⟨v6, M7, e8, h⟩ := bnd2_t h
    obtain ⟨n9, en10, e8⟩ := cal_t e8
    refine e_callV (As := []) (st := [.int x4, .ref r4]) (a := a0) (ci := 11) false dX11_readTerm_121 mw_X11_formulaRead (Or.inl ⟨rfl, ml_X11_231⟩) im_X11_formulaRead se_X11_formulaRead (by decide) ga2 gs3 rfl (Nat.le_of_ble_eq_true rfl) en10 (s_X11_formulaRead e8) ?_
    obtain ⟨⟨ga11, gn12, gs13, gi14⟩, h⟩ := gd_t h
    refine a_iastore dX11_readTerm_124 ga11 gs13 gi14 ?_
    exact a_lv (lv2 := [(0, .ref a0), (5, .int x5)]) (fa_cons rfl (fa_cons rfl fa_nil)) (hJ _ _ _ h)
  · replace h := ite_f c1 h
    refine a_iload dX11_readTerm_93 rfl ?_
    refine a_bipush (v := 6) dX11_readTerm_95 (by decide) ?_
    refine a_icmp_eq 114 dX11_readTerm_97 (by decide) (fun c15 => ?_) (fun c15 => ?_)
    · replace h := ite_t c15 h
      refine a_aload_n dX11_readTerm_114 rfl rfl ?_
      obtain ⟨⟨ga16, gs17⟩, h⟩ := gd_t h
      obtain ⟨r18, e19, h⟩ := bnd_t h
      refine a_get (v := .ref r18) dX11_readTerm_115 fl_11_62 ga16 gs17 (gvR e19 rfl) ?_
      refine a_iload dX11_readTerm_118 rfl ?_
      refine a_aload_n dX11_readTerm_120 rfl rfl ?_
      obtain ⟨v20, M21, e22, h⟩ := bnd2_t h
      obtain ⟨n23, en24, e22⟩ := cal_t e22
      refine e_callV (As := []) (st := [.int x4, .ref r18]) (a := a0) (ci := 11) false dX11_readTerm_121 mw_X11_formulaRead (Or.inl ⟨rfl, ml_X11_231⟩) im_X11_formulaRead se_X11_formulaRead (by decide) ga16 gs17 rfl (Nat.le_of_ble_eq_true rfl) en24 (s_X11_formulaRead e22) ?_
      obtain ⟨⟨ga25, gn26, gs27, gi28⟩, h⟩ := gd_t h
      refine a_iastore dX11_readTerm_124 ga25 gs27 gi28 ?_
      exact a_lv (lv2 := [(0, .ref a0), (5, .int x5)]) (fa_cons rfl (fa_cons rfl fa_nil)) (hJ _ _ _ h)
    · replace h := ite_f c15 h
      refine a_iload dX11_readTerm_100 rfl ?_
      refine a_bipush (v := 7) dX11_readTerm_102 (by decide) ?_
      refine a_icmp_eq 114 dX11_readTerm_104 (by decide) (fun c29 => ?_) (fun c29 => ?_)
      · replace h := ite_t c29 h
        refine a_aload_n dX11_readTerm_114 rfl rfl ?_
        obtain ⟨⟨ga30, gs31⟩, h⟩ := gd_t h
        obtain ⟨r32, e33, h⟩ := bnd_t h
        refine a_get (v := .ref r32) dX11_readTerm_115 fl_11_62 ga30 gs31 (gvR e33 rfl) ?_
        refine a_iload dX11_readTerm_118 rfl ?_
        refine a_aload_n dX11_readTerm_120 rfl rfl ?_
        obtain ⟨v34, M35, e36, h⟩ := bnd2_t h
        obtain ⟨n37, en38, e36⟩ := cal_t e36
        refine e_callV (As := []) (st := [.int x4, .ref r32]) (a := a0) (ci := 11) false dX11_readTerm_121 mw_X11_formulaRead (Or.inl ⟨rfl, ml_X11_231⟩) im_X11_formulaRead se_X11_formulaRead (by decide) ga30 gs31 rfl (Nat.le_of_ble_eq_true rfl) en38 (s_X11_formulaRead e36) ?_
        obtain ⟨⟨ga39, gn40, gs41, gi42⟩, h⟩ := gd_t h
        refine a_iastore dX11_readTerm_124 ga39 gs41 gi42 ?_
        exact a_lv (lv2 := [(0, .ref a0), (5, .int x5)]) (fa_cons rfl (fa_cons rfl fa_nil)) (hJ _ _ _ h)
      · replace h := ite_f c29 h
        refine a_iload dX11_readTerm_107 rfl ?_
        refine a_bipush (v := 9) dX11_readTerm_109 (by decide) ?_
        refine a_icmp_ne 125 dX11_readTerm_111 (by decide) (fun c43 => ?_) (fun c43 => ?_)
        · replace h := ite_f c43 h
          exact a_lv (lv2 := [(0, .ref a0), (5, .int x5)]) (fa_cons rfl (fa_cons rfl fa_nil)) (hJ _ _ _ h)
        · replace h := ite_t c43 h
          refine a_aload_n dX11_readTerm_114 rfl rfl ?_
          obtain ⟨⟨ga44, gs45⟩, h⟩ := gd_t h
          obtain ⟨r46, e47, h⟩ := bnd_t h
          refine a_get (v := .ref r46) dX11_readTerm_115 fl_11_62 ga44 gs45 (gvR e47 rfl) ?_
          refine a_iload dX11_readTerm_118 rfl ?_
          refine a_aload_n dX11_readTerm_120 rfl rfl ?_
          obtain ⟨v48, M49, e50, h⟩ := bnd2_t h
          obtain ⟨n51, en52, e50⟩ := cal_t e50
          refine e_callV (As := []) (st := [.int x4, .ref r46]) (a := a0) (ci := 11) false dX11_readTerm_121 mw_X11_formulaRead (Or.inl ⟨rfl, ml_X11_231⟩) im_X11_formulaRead se_X11_formulaRead (by decide) ga44 gs45 rfl (Nat.le_of_ble_eq_true rfl) en52 (s_X11_formulaRead e50) ?_
          obtain ⟨⟨ga53, gn54, gs55, gi56⟩, h⟩ := gd_t h
          refine a_iastore dX11_readTerm_124 ga53 gs55 gi56 ?_
          exact a_lv (lv2 := [(0, .ref a0), (5, .int x5)]) (fa_cons rfl (fa_cons rfl fa_nil)) (hJ _ _ _ h)
set_option maxHeartbeats 4000000 in
set_option maxRecDepth 100000 in
noncomputable def T_X11_readTerm_125.{u} {α : Sort u} (J : Nat → List Value → Mem → α) (R : Unit → Mem → α) (N : α) (cl : Nat → List Value → Mem → Option (Unit × Mem)) (n : Nat) (a0 : Nat) (x5 : Int32) (M : Mem) : α := gd (fO M a0 11) N (bnd2 (cl 0 [.ref a0] M) N (fun _ M3 => if x5 = 1 then gd (fO M3 a0 11) N (J 145 [.ref a0, .int x5] (wI M3 a0 39 ((M3.2.2.1 a0 39) - 1))) else J 145 [.ref a0, .int x5] M3))
set_option maxHeartbeats 4000000 in
set_option maxRecDepth 100000 in
theorem n_X11_readTerm_125.{u, v} {α : Sort u} {β : Sort v} (h : α → β) (J : Nat → List Value → Mem → α) (R : Unit → Mem → α) (N : α) (cl : Nat → List Value → Mem → Option (Unit × Mem)) (n : Nat) (a0 : Nat) (x5 : Int32) (M : Mem) : h (T_X11_readTerm_125 J R N cl n a0 x5 M) = T_X11_readTerm_125 (fun c l M => h (J c l M)) (fun v M => h (R v M)) (h N) cl n a0 x5 M := by
  simp only [T_X11_readTerm_125, nat_ite h, nat_gd h, nat_bnd h, nat_bnd2 h]
set_option maxHeartbeats 4000000 in
set_option maxRecDepth 100000 in
theorem w_X11_readTerm_125 {X : Nat × (Nat → Int32)} {al : Bool} {n : Nat} {Q : Option Value → Mem → Prop} {J : Nat → List Value → Mem → Prop} (hJ : ∀ c l M, J c l M → PW_X11_readTerm X al n Q c l M) {R : Unit → Mem → Prop} (hR : ∀ v M, R v M → Q none M) {cl : Nat → List Value → Mem → Option (Unit × Mem)} (hc_X11_readTerm : ∀ {a0 : Nat} {M : Mem} {v : Unit} {M1 : Mem}, cl 0 [.ref a0] M = some (v, M1) → ∃ k, n = k + 1 ∧ AE yX11_readTerm cX11_readTerm 7 none al k X [.ref a0] M none M1) {a0 : Nat} {x5 : Int32} {M : Mem} (h : T_X11_readTerm_125 J R False cl n a0 x5 M) : AW X (RX11, cX11_readTerm, 7, none, false, al, n) 0 0 125 [(0, .ref a0), (5, .int x5)] [] M Q := by
  unfold T_X11_readTerm_125 at h
  refine a_aload_n dX11_readTerm_125 rfl rfl ?_
  obtain ⟨⟨ga1, gs2⟩, h⟩ := gd_t h
  obtain ⟨_, M3, e4, h⟩ := bnd2_t h
  obtain ⟨n5, en6, e4⟩ := hc_X11_readTerm e4
  refine e_callV (As := []) (st := []) (a := a0) (ci := 11) false dX11_readTerm_126 mw_X11_readTerm (Or.inl ⟨rfl, ml_X11_268⟩) im_X11_readTerm se_X11_readTerm (by decide) ga1 gs2 rfl (Nat.le_of_ble_eq_true rfl) en6 e4 ?_
  refine a_iload dX11_readTerm_129 rfl ?_
  refine a_iconst (v := 1) dX11_readTerm_131 (by decide) ?_
  refine a_icmp_ne 145 dX11_readTerm_132 (by decide) (fun c7 => ?_) (fun c7 => ?_)
  · replace h := ite_f c7 h
    exact a_lv (lv2 := [(0, .ref a0), (5, .int x5)]) (fa_cons rfl (fa_cons rfl fa_nil)) (hJ _ _ _ h)
  · replace h := ite_t c7 h
    refine a_aload_n dX11_readTerm_135 rfl rfl ?_
    refine a_dup dX11_readTerm_136 rfl ?_
    obtain ⟨⟨ga8, gs9⟩, h⟩ := gd_t h
    refine a_get (v := .int (M3.2.2.1 a0 39)) dX11_readTerm_137 fl_11_247 ga8 gs9 rfl ?_
    refine a_iconst (v := 1) dX11_readTerm_140 (by decide) ?_
    refine a_isub dX11_readTerm_141 ?_
    refine a_putI dX11_readTerm_142 (Or.inl ⟨fl_11_247, Or.inl rfl⟩) rfl ga8 gs9 rfl rfl ?_
    exact a_lv (lv2 := [(0, .ref a0), (5, .int x5)]) (fa_cons rfl (fa_cons rfl fa_nil)) (hJ _ _ _ h)
set_option maxHeartbeats 4000000 in
set_option maxRecDepth 100000 in
noncomputable def T_X11_readTerm_145.{u} {α : Sort u} (J : Nat → List Value → Mem → α) (R : Unit → Mem → α) (N : α) (cl : Nat → List Value → Mem → Option (Unit × Mem)) (n : Nat) (a0 : Nat) (x5 : Int32) (M : Mem) : α := if x5 = 2 then gd (fO M a0 11) N (bnd2 (cl 0 [.ref a0] M) N (fun _ M4 => J 164 [.ref a0, .int x5, .int 0] M4)) else if x5 = 3 then gd (fO M a0 11) N (bnd2 (cl 0 [.ref a0] M) N (fun _ M11 => J 164 [.ref a0, .int x5, .int 0] M11)) else J 164 [.ref a0, .int x5, .int 0] M
set_option maxHeartbeats 4000000 in
set_option maxRecDepth 100000 in
theorem n_X11_readTerm_145.{u, v} {α : Sort u} {β : Sort v} (h : α → β) (J : Nat → List Value → Mem → α) (R : Unit → Mem → α) (N : α) (cl : Nat → List Value → Mem → Option (Unit × Mem)) (n : Nat) (a0 : Nat) (x5 : Int32) (M : Mem) : h (T_X11_readTerm_145 J R N cl n a0 x5 M) = T_X11_readTerm_145 (fun c l M => h (J c l M)) (fun v M => h (R v M)) (h N) cl n a0 x5 M := by
  simp only [T_X11_readTerm_145, nat_ite h, nat_gd h, nat_bnd h, nat_bnd2 h]
set_option maxHeartbeats 4000000 in
set_option maxRecDepth 100000 in
theorem w_X11_readTerm_145 {X : Nat × (Nat → Int32)} {al : Bool} {n : Nat} {Q : Option Value → Mem → Prop} {J : Nat → List Value → Mem → Prop} (hJ : ∀ c l M, J c l M → PW_X11_readTerm X al n Q c l M) {R : Unit → Mem → Prop} (hR : ∀ v M, R v M → Q none M) {cl : Nat → List Value → Mem → Option (Unit × Mem)} (hc_X11_readTerm : ∀ {a0 : Nat} {M : Mem} {v : Unit} {M1 : Mem}, cl 0 [.ref a0] M = some (v, M1) → ∃ k, n = k + 1 ∧ AE yX11_readTerm cX11_readTerm 7 none al k X [.ref a0] M none M1) {a0 : Nat} {x5 : Int32} {M : Mem} (h : T_X11_readTerm_145 J R False cl n a0 x5 M) : AW X (RX11, cX11_readTerm, 7, none, false, al, n) 0 0 145 [(0, .ref a0), (5, .int x5)] [] M Q := by
  unfold T_X11_readTerm_145 at h
  refine a_iload dX11_readTerm_145 rfl ?_
  refine a_iconst (v := 2) dX11_readTerm_147 (by decide) ?_
  refine a_icmp_eq 157 dX11_readTerm_148 (by decide) (fun c1 => ?_) (fun c1 => ?_)
  · replace h := ite_t c1 h
    refine a_aload_n dX11_readTerm_157 rfl rfl ?_
    obtain ⟨⟨ga2, gs3⟩, h⟩ := gd_t h
    obtain ⟨_, M4, e5, h⟩ := bnd2_t h
    obtain ⟨n6, en7, e5⟩ := hc_X11_readTerm e5
    refine e_callV (As := []) (st := []) (a := a0) (ci := 11) false dX11_readTerm_158 mw_X11_readTerm (Or.inl ⟨rfl, ml_X11_268⟩) im_X11_readTerm se_X11_readTerm (by decide) ga2 gs3 rfl (Nat.le_of_ble_eq_true rfl) en7 e5 ?_
    refine a_iconst (v := 0) dX11_readTerm_161 (by decide) ?_
    refine a_istore dX11_readTerm_162 (Nat.le_of_ble_eq_true rfl) (lv2 := [(6, .int 0), (0, .ref a0), (5, .int x5)]) rfl ?_
    exact a_lv (lv2 := [(0, .ref a0), (5, .int x5), (6, .int 0)]) (fa_cons rfl (fa_cons rfl (fa_cons rfl fa_nil))) (hJ _ _ _ h)
  · replace h := ite_f c1 h
    refine a_iload dX11_readTerm_151 rfl ?_
    refine a_iconst (v := 3) dX11_readTerm_153 (by decide) ?_
    refine a_icmp_ne 161 dX11_readTerm_154 (by decide) (fun c8 => ?_) (fun c8 => ?_)
    · replace h := ite_f c8 h
      refine a_iconst (v := 0) dX11_readTerm_161 (by decide) ?_
      refine a_istore dX11_readTerm_162 (Nat.le_of_ble_eq_true rfl) (lv2 := [(6, .int 0), (0, .ref a0), (5, .int x5)]) rfl ?_
      exact a_lv (lv2 := [(0, .ref a0), (5, .int x5), (6, .int 0)]) (fa_cons rfl (fa_cons rfl (fa_cons rfl fa_nil))) (hJ _ _ _ h)
    · replace h := ite_t c8 h
      refine a_aload_n dX11_readTerm_157 rfl rfl ?_
      obtain ⟨⟨ga9, gs10⟩, h⟩ := gd_t h
      obtain ⟨_, M11, e12, h⟩ := bnd2_t h
      obtain ⟨n13, en14, e12⟩ := hc_X11_readTerm e12
      refine e_callV (As := []) (st := []) (a := a0) (ci := 11) false dX11_readTerm_158 mw_X11_readTerm (Or.inl ⟨rfl, ml_X11_268⟩) im_X11_readTerm se_X11_readTerm (by decide) ga9 gs10 rfl (Nat.le_of_ble_eq_true rfl) en14 e12 ?_
      refine a_iconst (v := 0) dX11_readTerm_161 (by decide) ?_
      refine a_istore dX11_readTerm_162 (Nat.le_of_ble_eq_true rfl) (lv2 := [(6, .int 0), (0, .ref a0), (5, .int x5)]) rfl ?_
      exact a_lv (lv2 := [(0, .ref a0), (5, .int x5), (6, .int 0)]) (fa_cons rfl (fa_cons rfl (fa_cons rfl fa_nil))) (hJ _ _ _ h)
set_option maxHeartbeats 4000000 in
set_option maxRecDepth 100000 in
noncomputable def T_X11_readTerm_164.{u} {α : Sort u} (J : Nat → List Value → Mem → α) (R : Unit → Mem → α) (N : α) (cl : Nat → List Value → Mem → Option (Unit × Mem)) (n : Nat) (a0 : Nat) (x5 : Int32) (x6 : Int32) (M : Mem) : α := if 2 ≤ x6 then R () M else if x5 = 8 then gd (fO M a0 11) N (if (M.2.2.1 a0 30) = 0 then bnd2 (cal n (fun n => f_X11_tells0 n a0 M)) N (fun _ M6 => gd (fO M6 a0 11) N (bnd2 (cl 0 [.ref a0] M6) N (fun _ M12 => gd (fO M12 a0 11) N (J 164 [.ref a0, .int x5, .int (x6 + 1)] (wI M12 a0 39 ((M12.2.2.1 a0 39) - 1)))))) else R () M) else R () M
set_option maxHeartbeats 4000000 in
set_option maxRecDepth 100000 in
theorem n_X11_readTerm_164.{u, v} {α : Sort u} {β : Sort v} (h : α → β) (J : Nat → List Value → Mem → α) (R : Unit → Mem → α) (N : α) (cl : Nat → List Value → Mem → Option (Unit × Mem)) (n : Nat) (a0 : Nat) (x5 : Int32) (x6 : Int32) (M : Mem) : h (T_X11_readTerm_164 J R N cl n a0 x5 x6 M) = T_X11_readTerm_164 (fun c l M => h (J c l M)) (fun v M => h (R v M)) (h N) cl n a0 x5 x6 M := by
  simp only [T_X11_readTerm_164, nat_ite h, nat_gd h, nat_bnd h, nat_bnd2 h]
set_option maxHeartbeats 4000000 in
set_option maxRecDepth 100000 in
theorem w_X11_readTerm_164 {X : Nat × (Nat → Int32)} {al : Bool} {n : Nat} {Q : Option Value → Mem → Prop} {J : Nat → List Value → Mem → Prop} (hJ : ∀ c l M, J c l M → PW_X11_readTerm X al n Q c l M) {R : Unit → Mem → Prop} (hR : ∀ v M, R v M → Q none M) {cl : Nat → List Value → Mem → Option (Unit × Mem)} (hc_X11_readTerm : ∀ {a0 : Nat} {M : Mem} {v : Unit} {M1 : Mem}, cl 0 [.ref a0] M = some (v, M1) → ∃ k, n = k + 1 ∧ AE yX11_readTerm cX11_readTerm 7 none al k X [.ref a0] M none M1) {a0 : Nat} {x5 : Int32} {x6 : Int32} {M : Mem} (h : T_X11_readTerm_164 J R False cl n a0 x5 x6 M) : AW X (RX11, cX11_readTerm, 7, none, false, al, n) 0 0 164 [(0, .ref a0), (5, .int x5), (6, .int x6)] [] M Q := by
  unfold T_X11_readTerm_164 at h
  refine a_iload dX11_readTerm_164 rfl ?_
  refine a_iconst (v := 2) dX11_readTerm_166 (by decide) ?_
  refine a_icmp_ge 208 dX11_readTerm_167 (by decide) (fun c1 => ?_) (fun c1 => ?_)
  · replace h := ite_t c1 h
    exact a_vret dX11_readTerm_208 rfl (hR _ _ h)
  · replace h := ite_f c1 h
    refine a_iload dX11_readTerm_170 rfl ?_
    refine a_bipush (v := 8) dX11_readTerm_172 (by decide) ?_
    refine a_icmp_ne 208 dX11_readTerm_174 (by decide) (fun c2 => ?_) (fun c2 => ?_)
    · replace h := ite_f c2 h
      exact a_vret dX11_readTerm_208 rfl (hR _ _ h)
    · replace h := ite_t c2 h
      refine a_aload_n dX11_readTerm_177 rfl rfl ?_
      obtain ⟨⟨ga3, gs4⟩, h⟩ := gd_t h
      refine a_get (v := .int (M.2.2.1 a0 30)) dX11_readTerm_178 fl_11_163 ga3 gs4 rfl ?_
      refine a_if_ne 208 dX11_readTerm_181 (by decide) (fun c5 => ?_) (fun c5 => ?_)
      · replace h := ite_f c5 h
        exact a_vret dX11_readTerm_208 rfl (hR _ _ h)
      · replace h := ite_t c5 h
        refine a_aload_n dX11_readTerm_184 rfl rfl ?_
        obtain ⟨_, M6, e7, h⟩ := bnd2_t h
        obtain ⟨n8, en9, e7⟩ := cal_t e7
        refine e_callV (As := []) (st := []) (a := a0) (ci := 11) false dX11_readTerm_185 mw_X11_tells0 (Or.inl ⟨rfl, ml_X11_265⟩) im_X11_tells0 se_X11_tells0 (by decide) ga3 gs4 rfl (Nat.le_of_ble_eq_true rfl) en9 (s_X11_tells0 e7) ?_
        refine a_aload_n dX11_readTerm_188 rfl rfl ?_
        obtain ⟨⟨ga10, gs11⟩, h⟩ := gd_t h
        obtain ⟨_, M12, e13, h⟩ := bnd2_t h
        obtain ⟨n14, en15, e13⟩ := hc_X11_readTerm e13
        refine e_callV (As := []) (st := []) (a := a0) (ci := 11) false dX11_readTerm_189 mw_X11_readTerm (Or.inl ⟨rfl, ml_X11_268⟩) im_X11_readTerm se_X11_readTerm (by decide) ga10 gs11 rfl (Nat.le_of_ble_eq_true rfl) en15 e13 ?_
        refine a_aload_n dX11_readTerm_192 rfl rfl ?_
        refine a_dup dX11_readTerm_193 rfl ?_
        obtain ⟨⟨ga16, gs17⟩, h⟩ := gd_t h
        refine a_get (v := .int (M12.2.2.1 a0 39)) dX11_readTerm_194 fl_11_247 ga16 gs17 rfl ?_
        refine a_iconst (v := 1) dX11_readTerm_197 (by decide) ?_
        refine a_isub dX11_readTerm_198 ?_
        refine a_putI dX11_readTerm_199 (Or.inl ⟨fl_11_247, Or.inl rfl⟩) rfl ga16 gs17 rfl rfl ?_
        refine a_iinc (v := (x6 + 1)) dX11_readTerm_202 rfl (by first | rfl | decide) (Nat.le_of_ble_eq_true rfl) (lv2 := [(6, .int (x6 + 1)), (0, .ref a0), (5, .int x5)]) rfl ?_
        refine a_goto 164 dX11_readTerm_205 (by decide) ?_
        exact a_lv (lv2 := [(0, .ref a0), (5, .int x5), (6, .int (x6 + 1))]) (fa_cons rfl (fa_cons rfl (fa_cons rfl fa_nil))) (hJ _ _ _ h)
set_option maxHeartbeats 4000000 in
set_option maxRecDepth 100000 in
noncomputable def st_X11_readTerm (cl : Nat → List Value → Mem → Option (Unit × Mem)) (n : Nat) (s : Sg) : Option (Sg ⊕ (Unit × Mem)) := if s.1 = 0 then vR s.2.1 none (fun a0 t => vE t none (T_X11_readTerm_0 (fun c l M => some (.inl (c, l, M))) (fun v M => some (.inr (v, M))) none cl n a0 s.2.2)) else if s.1 = 87 then vR s.2.1 none (fun a0 t => vI t none (fun x4 t => vI t none (fun x5 t => vE t none (T_X11_readTerm_87 (fun c l M => some (.inl (c, l, M))) (fun v M => some (.inr (v, M))) none cl n a0 x4 x5 s.2.2)))) else if s.1 = 125 then vR s.2.1 none (fun a0 t => vI t none (fun x5 t => vE t none (T_X11_readTerm_125 (fun c l M => some (.inl (c, l, M))) (fun v M => some (.inr (v, M))) none cl n a0 x5 s.2.2))) else if s.1 = 145 then vR s.2.1 none (fun a0 t => vI t none (fun x5 t => vE t none (T_X11_readTerm_145 (fun c l M => some (.inl (c, l, M))) (fun v M => some (.inr (v, M))) none cl n a0 x5 s.2.2))) else if s.1 = 164 then vR s.2.1 none (fun a0 t => vI t none (fun x5 t => vI t none (fun x6 t => vE t none (T_X11_readTerm_164 (fun c l M => some (.inl (c, l, M))) (fun v M => some (.inr (v, M))) none cl n a0 x5 x6 s.2.2)))) else none
noncomputable abbrev g_X11_readTerm_0 (cl : Nat → List Value → Mem → Option (Unit × Mem)) (n : Nat) (a0 : Nat) (M : Mem) : Option (Unit × Mem) := lp (st_X11_readTerm cl n) (0, [.ref a0], M)
set_option maxHeartbeats 4000000 in
set_option maxRecDepth 100000 in
theorem ge_X11_readTerm_0 (cl : Nat → List Value → Mem → Option (Unit × Mem)) (n : Nat) (a0 : Nat) (M : Mem) : g_X11_readTerm_0 cl n a0 M = T_X11_readTerm_0 (fun c l M => lp (st_X11_readTerm cl n) (c, l, M)) (fun v M => some (v, M)) none cl n a0 M := (lp_eq _ _).trans (n_X11_readTerm_0 (lpK (st_X11_readTerm cl n)) (fun c l M => some (.inl (c, l, M))) (fun v M => some (.inr (v, M))) none cl n a0 M)
noncomputable abbrev g_X11_readTerm_87 (cl : Nat → List Value → Mem → Option (Unit × Mem)) (n : Nat) (a0 : Nat) (x4 : Int32) (x5 : Int32) (M : Mem) : Option (Unit × Mem) := lp (st_X11_readTerm cl n) (87, [.ref a0, .int x4, .int x5], M)
set_option maxHeartbeats 4000000 in
set_option maxRecDepth 100000 in
theorem ge_X11_readTerm_87 (cl : Nat → List Value → Mem → Option (Unit × Mem)) (n : Nat) (a0 : Nat) (x4 : Int32) (x5 : Int32) (M : Mem) : g_X11_readTerm_87 cl n a0 x4 x5 M = T_X11_readTerm_87 (fun c l M => lp (st_X11_readTerm cl n) (c, l, M)) (fun v M => some (v, M)) none cl n a0 x4 x5 M := (lp_eq _ _).trans (n_X11_readTerm_87 (lpK (st_X11_readTerm cl n)) (fun c l M => some (.inl (c, l, M))) (fun v M => some (.inr (v, M))) none cl n a0 x4 x5 M)
noncomputable abbrev g_X11_readTerm_125 (cl : Nat → List Value → Mem → Option (Unit × Mem)) (n : Nat) (a0 : Nat) (x5 : Int32) (M : Mem) : Option (Unit × Mem) := lp (st_X11_readTerm cl n) (125, [.ref a0, .int x5], M)
set_option maxHeartbeats 4000000 in
set_option maxRecDepth 100000 in
theorem ge_X11_readTerm_125 (cl : Nat → List Value → Mem → Option (Unit × Mem)) (n : Nat) (a0 : Nat) (x5 : Int32) (M : Mem) : g_X11_readTerm_125 cl n a0 x5 M = T_X11_readTerm_125 (fun c l M => lp (st_X11_readTerm cl n) (c, l, M)) (fun v M => some (v, M)) none cl n a0 x5 M := (lp_eq _ _).trans (n_X11_readTerm_125 (lpK (st_X11_readTerm cl n)) (fun c l M => some (.inl (c, l, M))) (fun v M => some (.inr (v, M))) none cl n a0 x5 M)
noncomputable abbrev g_X11_readTerm_145 (cl : Nat → List Value → Mem → Option (Unit × Mem)) (n : Nat) (a0 : Nat) (x5 : Int32) (M : Mem) : Option (Unit × Mem) := lp (st_X11_readTerm cl n) (145, [.ref a0, .int x5], M)
set_option maxHeartbeats 4000000 in
set_option maxRecDepth 100000 in
theorem ge_X11_readTerm_145 (cl : Nat → List Value → Mem → Option (Unit × Mem)) (n : Nat) (a0 : Nat) (x5 : Int32) (M : Mem) : g_X11_readTerm_145 cl n a0 x5 M = T_X11_readTerm_145 (fun c l M => lp (st_X11_readTerm cl n) (c, l, M)) (fun v M => some (v, M)) none cl n a0 x5 M := (lp_eq _ _).trans (n_X11_readTerm_145 (lpK (st_X11_readTerm cl n)) (fun c l M => some (.inl (c, l, M))) (fun v M => some (.inr (v, M))) none cl n a0 x5 M)
noncomputable abbrev g_X11_readTerm_164 (cl : Nat → List Value → Mem → Option (Unit × Mem)) (n : Nat) (a0 : Nat) (x5 : Int32) (x6 : Int32) (M : Mem) : Option (Unit × Mem) := lp (st_X11_readTerm cl n) (164, [.ref a0, .int x5, .int x6], M)
set_option maxHeartbeats 4000000 in
set_option maxRecDepth 100000 in
theorem ge_X11_readTerm_164 (cl : Nat → List Value → Mem → Option (Unit × Mem)) (n : Nat) (a0 : Nat) (x5 : Int32) (x6 : Int32) (M : Mem) : g_X11_readTerm_164 cl n a0 x5 x6 M = T_X11_readTerm_164 (fun c l M => lp (st_X11_readTerm cl n) (c, l, M)) (fun v M => some (v, M)) none cl n a0 x5 x6 M := (lp_eq _ _).trans (n_X11_readTerm_164 (lpK (st_X11_readTerm cl n)) (fun c l M => some (.inl (c, l, M))) (fun v M => some (.inr (v, M))) none cl n a0 x5 x6 M)
noncomputable def b_X11_readTerm (cl : Nat → List Value → Mem → Option (Unit × Mem)) (n : Nat) (a0 : Nat) (M : Mem) : Option (Unit × Mem) := g_X11_readTerm_0 cl n a0 M
set_option maxHeartbeats 4000000 in
set_option maxRecDepth 100000 in
theorem sb_X11_readTerm {X : Nat × (Nat → Int32)} {al : Bool} {n : Nat} {cl : Nat → List Value → Mem → Option (Unit × Mem)} (hc_X11_readTerm : ∀ {a0 : Nat} {M : Mem} {v : Unit} {M1 : Mem}, cl 0 [.ref a0] M = some (v, M1) → ∃ k, n = k + 1 ∧ AE yX11_readTerm cX11_readTerm 7 none al k X [.ref a0] M none M1) {a0 : Nat} {M : Mem} {v : Unit} {M1 : Mem} (h : b_X11_readTerm cl n a0 M = some (v, M1)) : AE yX11_readTerm cX11_readTerm 7 none al n X [.ref a0] M none M1 := by
  refine AM.of false (by decide +kernel) (by intro h; cases h) (Nat.le_of_ble_eq_true rfl) ?_
  refine lp_snd (P := fun s r => PW_X11_readTerm X al n (fun v M2 => v = none ∧ M2 = r.2) s.1 s.2.1 s.2.2) ?_ h
  clear h
  rintro ⟨c, l, M⟩ r h
  unfold st_X11_readTerm at h
  rcases ite_p h with ⟨e, h⟩ | ⟨e, h⟩
  · replace e : c = 0 := e
    subst e
    obtain ⟨a0, tt0, e, h⟩ := vR_p id h
    replace e : l = _ := e
    subst e
    obtain ⟨e, h⟩ := vE_p id h
    replace e : tt0 = [] := e
    subst e
    exact w_X11_readTerm_0 (J := fun c l M => PW_X11_readTerm X al n (fun v M2 => v = none ∧ M2 = r.2) c l M) (R := fun v M => (v, M) = r) (fun _ _ _ h => h) (fun v M h => by cases h; exact ⟨rfl, rfl⟩) hc_X11_readTerm ((n_X11_readTerm_0 (lpP (fun (s : Sg) (r : Unit × Mem) => PW_X11_readTerm X al n (fun v M2 => v = none ∧ M2 = r.2) s.1 s.2.1 s.2.2) r) (fun c l M => some (.inl (c, l, M))) (fun v M => some (.inr (v, M))) none cl n a0 M).mp h)
  rcases ite_p h with ⟨e, h⟩ | ⟨e, h⟩
  · replace e : c = 87 := e
    subst e
    obtain ⟨a0, tt0, e, h⟩ := vR_p id h
    replace e : l = _ := e
    subst e
    obtain ⟨x4, tt1, e, h⟩ := vI_p id h
    replace e : tt0 = _ := e
    subst e
    obtain ⟨x5, tt2, e, h⟩ := vI_p id h
    replace e : tt1 = _ := e
    subst e
    obtain ⟨e, h⟩ := vE_p id h
    replace e : tt2 = [] := e
    subst e
    exact w_X11_readTerm_87 (J := fun c l M => PW_X11_readTerm X al n (fun v M2 => v = none ∧ M2 = r.2) c l M) (R := fun v M => (v, M) = r) (fun _ _ _ h => h) (fun v M h => by cases h; exact ⟨rfl, rfl⟩) hc_X11_readTerm ((n_X11_readTerm_87 (lpP (fun (s : Sg) (r : Unit × Mem) => PW_X11_readTerm X al n (fun v M2 => v = none ∧ M2 = r.2) s.1 s.2.1 s.2.2) r) (fun c l M => some (.inl (c, l, M))) (fun v M => some (.inr (v, M))) none cl n a0 x4 x5 M).mp h)
  rcases ite_p h with ⟨e, h⟩ | ⟨e, h⟩
  · replace e : c = 125 := e
    subst e
    obtain ⟨a0, tt0, e, h⟩ := vR_p id h
    replace e : l = _ := e
    subst e
    obtain ⟨x5, tt1, e, h⟩ := vI_p id h
    replace e : tt0 = _ := e
    subst e
    obtain ⟨e, h⟩ := vE_p id h
    replace e : tt1 = [] := e
    subst e
    exact w_X11_readTerm_125 (J := fun c l M => PW_X11_readTerm X al n (fun v M2 => v = none ∧ M2 = r.2) c l M) (R := fun v M => (v, M) = r) (fun _ _ _ h => h) (fun v M h => by cases h; exact ⟨rfl, rfl⟩) hc_X11_readTerm ((n_X11_readTerm_125 (lpP (fun (s : Sg) (r : Unit × Mem) => PW_X11_readTerm X al n (fun v M2 => v = none ∧ M2 = r.2) s.1 s.2.1 s.2.2) r) (fun c l M => some (.inl (c, l, M))) (fun v M => some (.inr (v, M))) none cl n a0 x5 M).mp h)
  rcases ite_p h with ⟨e, h⟩ | ⟨e, h⟩
  · replace e : c = 145 := e
    subst e
    obtain ⟨a0, tt0, e, h⟩ := vR_p id h
    replace e : l = _ := e
    subst e
    obtain ⟨x5, tt1, e, h⟩ := vI_p id h
    replace e : tt0 = _ := e
    subst e
    obtain ⟨e, h⟩ := vE_p id h
    replace e : tt1 = [] := e
    subst e
    exact w_X11_readTerm_145 (J := fun c l M => PW_X11_readTerm X al n (fun v M2 => v = none ∧ M2 = r.2) c l M) (R := fun v M => (v, M) = r) (fun _ _ _ h => h) (fun v M h => by cases h; exact ⟨rfl, rfl⟩) hc_X11_readTerm ((n_X11_readTerm_145 (lpP (fun (s : Sg) (r : Unit × Mem) => PW_X11_readTerm X al n (fun v M2 => v = none ∧ M2 = r.2) s.1 s.2.1 s.2.2) r) (fun c l M => some (.inl (c, l, M))) (fun v M => some (.inr (v, M))) none cl n a0 x5 M).mp h)
  rcases ite_p h with ⟨e, h⟩ | ⟨e, h⟩
  · replace e : c = 164 := e
    subst e
    obtain ⟨a0, tt0, e, h⟩ := vR_p id h
    replace e : l = _ := e
    subst e
    obtain ⟨x5, tt1, e, h⟩ := vI_p id h
    replace e : tt0 = _ := e
    subst e
    obtain ⟨x6, tt2, e, h⟩ := vI_p id h
    replace e : tt1 = _ := e
    subst e
    obtain ⟨e, h⟩ := vE_p id h
    replace e : tt2 = [] := e
    subst e
    exact w_X11_readTerm_164 (J := fun c l M => PW_X11_readTerm X al n (fun v M2 => v = none ∧ M2 = r.2) c l M) (R := fun v M => (v, M) = r) (fun _ _ _ h => h) (fun v M h => by cases h; exact ⟨rfl, rfl⟩) hc_X11_readTerm ((n_X11_readTerm_164 (lpP (fun (s : Sg) (r : Unit × Mem) => PW_X11_readTerm X al n (fun v M2 => v = none ∧ M2 = r.2) s.1 s.2.1 s.2.2) r) (fun c l M => some (.inl (c, l, M))) (fun v M => some (.inr (v, M))) none cl n a0 x5 x6 M).mp h)
  · exact h.elim

noncomputable def F_X11_readTerm (cl : Nat → List Value → Mem → Option (Unit × Mem)) (n k : Nat) (l : List Value) (M : Mem) : Option (Unit × Mem) := if k = 0 then vR l none (fun a0 t => vE t none (b_X11_readTerm cl n a0 M)) else none
noncomputable def r_X11_readTerm : Nat → Nat → List Value → Mem → Option (Unit × Mem)
  | 0 => F_X11_readTerm (fun _ _ _ => none) 0
  | n + 1 => F_X11_readTerm (r_X11_readTerm n) (n + 1)
noncomputable abbrev f_X11_readTerm (n : Nat) (a0 : Nat) (M : Mem) : Option (Unit × Mem) := r_X11_readTerm n 0 [.ref a0] M
set_option maxHeartbeats 4000000 in
set_option maxRecDepth 100000 in
theorem sr_X11_readTerm {X : Nat × (Nat → Int32)} {al : Bool} : ∀ n : Nat, (∀ {a0 : Nat} {M : Mem} {v : Unit} {M1 : Mem}, f_X11_readTerm n a0 M = some (v, M1) → AE yX11_readTerm cX11_readTerm 7 none al n X [.ref a0] M none M1) := by
  intro n
  induction n with
  | zero => exact (fun h => sb_X11_readTerm (cl := fun _ _ _ => none) (fun h => by cases h) h)
  | succ n ih => exact (fun h => sb_X11_readTerm (cl := r_X11_readTerm n) (fun h => ⟨n, rfl, ih h⟩) h)
theorem s_X11_readTerm {X : Nat × (Nat → Int32)} {al : Bool} {n : Nat} {a0 : Nat} {M : Mem} {v : Unit} {M1 : Mem} (h : f_X11_readTerm n a0 M = some (v, M1)) : AE yX11_readTerm cX11_readTerm 7 none al n X [.ref a0] M none M1 := (sr_X11_readTerm n) h
set_option maxHeartbeats 4000000 in
set_option maxRecDepth 100000 in
noncomputable def T_X11_isNot_0.{u} {α : Sort u} (R : Int32 → Mem → α) (N : α) (n : Nat) (a0 : Nat) (x1 : Int32) (x2 : Int32) (x3 : Int32) (M : Mem) : α := gd (fO M a0 11) N (if (M.2.2.1 a0 30) = 0 then bnd (M.2.2.2.2 a0 1) N (fun r5 => gd (fA M r5 1 x1) N (if (M.2.2.1 r5 (x1.toNatClampNeg)) = x2 then if (M.2.2.1 a0 30) = 0 then R 0 M else R 1 M else bnd (M.2.2.2.2 a0 36) N (fun r13 => gd (fA M r13 1 x3) N (bnd2 (cal n (fun n => f_X11_fails n a0 5 (M.2.2.1 r13 (x3.toNatClampNeg)) M)) N (fun _ M19 => gd (fO M19 a0 11) N (if (M19.2.2.1 a0 30) = 0 then R 0 M19 else R 1 M19)))))) else if (M.2.2.1 a0 30) = 0 then R 0 M else R 1 M)
set_option maxHeartbeats 4000000 in
set_option maxRecDepth 100000 in
theorem n_X11_isNot_0.{u, v} {α : Sort u} {β : Sort v} (h : α → β) (R : Int32 → Mem → α) (N : α) (n : Nat) (a0 : Nat) (x1 : Int32) (x2 : Int32) (x3 : Int32) (M : Mem) : h (T_X11_isNot_0 R N n a0 x1 x2 x3 M) = T_X11_isNot_0 (fun v M => h (R v M)) (h N) n a0 x1 x2 x3 M := by
  simp only [T_X11_isNot_0, nat_ite h, nat_gd h, nat_bnd h, nat_bnd2 h]
set_option maxHeartbeats 4000000 in
set_option maxRecDepth 100000 in
theorem w_X11_isNot_0 {X : Nat × (Nat → Int32)} {al : Bool} {n : Nat} {Q : Option Value → Mem → Prop} {R : Int32 → Mem → Prop} (hR : ∀ v M, R v M → Q (some (.int v)) M) {a0 : Nat} {x1 : Int32} {x2 : Int32} {x3 : Int32} {M : Mem} (h : T_X11_isNot_0 R False n a0 x1 x2 x3 M) : AW X (RX11, cX11_isNot, 4, (some .boolean), false, al, n) 0 0 0 [(0, .ref a0), (1, .int x1), (2, .int x2), (3, .int x3)] [] M Q := by
  unfold T_X11_isNot_0 at h
  refine a_aload_n dX11_isNot_0 rfl rfl ?_
  obtain ⟨⟨ga1, gs2⟩, h⟩ := gd_t h
  refine a_get (v := .int (M.2.2.1 a0 30)) dX11_isNot_1 fl_11_163 ga1 gs2 rfl ?_
  refine a_if_ne 28 dX11_isNot_4 (by decide) (fun c3 => ?_) (fun c3 => ?_)
  · replace h := ite_f c3 h
    refine a_aload_n dX11_isNot_28 rfl rfl ?_
    refine a_get (v := .int (M.2.2.1 a0 30)) dX11_isNot_29 fl_11_163 ga1 gs2 rfl ?_
    refine a_if_eq 39 dX11_isNot_32 (by decide) (fun c4 => ?_) (fun c4 => ?_)
    · replace h := ite_t c4 h
      refine a_iconst (v := 0) dX11_isNot_39 (by decide) ?_
      exact a_zret dX11_isNot_40 rfl rfl (hR _ _ h)
    · replace h := ite_f c4 h
      refine a_iconst (v := 1) dX11_isNot_35 (by decide) ?_
      refine a_goto 40 dX11_isNot_36 (by decide) ?_
      exact a_zret dX11_isNot_40 rfl rfl (hR _ _ h)
  · replace h := ite_t c3 h
    refine a_aload_n dX11_isNot_7 rfl rfl ?_
    obtain ⟨r5, e6, h⟩ := bnd_t h
    refine a_get (v := .ref r5) dX11_isNot_8 fl_11_13 ga1 gs2 (gvR e6 rfl) ?_
    refine a_iload_n dX11_isNot_11 rfl rfl ?_
    obtain ⟨⟨ga7, gn8, gs9, gi10⟩, h⟩ := gd_t h
    refine a_iaload dX11_isNot_12 ga7 gs9 gi10 ?_
    refine a_iload_n dX11_isNot_13 rfl rfl ?_
    refine a_icmp_eq 28 dX11_isNot_14 (by decide) (fun c11 => ?_) (fun c11 => ?_)
    · replace h := ite_t c11 h
      refine a_aload_n dX11_isNot_28 rfl rfl ?_
      refine a_get (v := .int (M.2.2.1 a0 30)) dX11_isNot_29 fl_11_163 ga1 gs2 rfl ?_
      refine a_if_eq 39 dX11_isNot_32 (by decide) (fun c12 => ?_) (fun c12 => ?_)
      · replace h := ite_t c12 h
        refine a_iconst (v := 0) dX11_isNot_39 (by decide) ?_
        exact a_zret dX11_isNot_40 rfl rfl (hR _ _ h)
      · replace h := ite_f c12 h
        refine a_iconst (v := 1) dX11_isNot_35 (by decide) ?_
        refine a_goto 40 dX11_isNot_36 (by decide) ?_
        exact a_zret dX11_isNot_40 rfl rfl (hR _ _ h)
    · replace h := ite_f c11 h
      refine a_aload_n dX11_isNot_17 rfl rfl ?_
      refine a_iconst (v := 5) dX11_isNot_18 (by decide) ?_
      refine a_aload_n dX11_isNot_19 rfl rfl ?_
      obtain ⟨r13, e14, h⟩ := bnd_t h
      refine a_get (v := .ref r13) dX11_isNot_20 fl_11_78 ga1 gs2 (gvR e14 rfl) ?_
      refine a_iload_n dX11_isNot_23 rfl rfl ?_
      obtain ⟨⟨ga15, gn16, gs17, gi18⟩, h⟩ := gd_t h
      refine a_iaload dX11_isNot_24 ga15 gs17 gi18 ?_
      obtain ⟨_, M19, e20, h⟩ := bnd2_t h
      obtain ⟨n21, en22, e20⟩ := cal_t e20
      refine e_callV (As := [.int 5, .int (M.2.2.1 r13 (x3.toNatClampNeg))]) (st := []) (a := a0) (ci := 11) false dX11_isNot_25 mw_X11_fails (Or.inl ⟨rfl, ml_X11_209⟩) im_X11_fails se_X11_fails (by decide) ga1 gs2 rfl (Nat.le_of_ble_eq_true rfl) en22 (s_X11_fails e20) ?_
      refine a_aload_n dX11_isNot_28 rfl rfl ?_
      obtain ⟨⟨ga23, gs24⟩, h⟩ := gd_t h
      refine a_get (v := .int (M19.2.2.1 a0 30)) dX11_isNot_29 fl_11_163 ga23 gs24 rfl ?_
      refine a_if_eq 39 dX11_isNot_32 (by decide) (fun c25 => ?_) (fun c25 => ?_)
      · replace h := ite_t c25 h
        refine a_iconst (v := 0) dX11_isNot_39 (by decide) ?_
        exact a_zret dX11_isNot_40 rfl rfl (hR _ _ h)
      · replace h := ite_f c25 h
        refine a_iconst (v := 1) dX11_isNot_35 (by decide) ?_
        refine a_goto 40 dX11_isNot_36 (by decide) ?_
        exact a_zret dX11_isNot_40 rfl rfl (hR _ _ h)
noncomputable def b_X11_isNot (n : Nat) (a0 : Nat) (x1 : Int32) (x2 : Int32) (x3 : Int32) (M : Mem) : Option (Int32 × Mem) := T_X11_isNot_0 (fun v M => some (v, M)) none n a0 x1 x2 x3 M
set_option maxHeartbeats 4000000 in
set_option maxRecDepth 100000 in
theorem sb_X11_isNot {X : Nat × (Nat → Int32)} {al : Bool} {n : Nat} {a0 : Nat} {x1 : Int32} {x2 : Int32} {x3 : Int32} {M : Mem} {v : Int32} {M1 : Mem} (h : b_X11_isNot n a0 x1 x2 x3 M = some (v, M1)) : AE yX11_isNot cX11_isNot 4 (some .boolean) al n X [.ref a0, .int x1, .int x2, .int x3] M (some (.int v)) M1 := by
  refine AM.of false (by decide +kernel) (by intro h; cases h) (Nat.le_of_ble_eq_true rfl) ?_
  have h2 : T_X11_isNot_0 (fun v2 M2 => some (v2, M2) = some (v, M1)) (none = some (v, M1)) n a0 x1 x2 x3 M := (n_X11_isNot_0 (fun o => o = some (v, M1)) (fun v M => some (v, M)) none n a0 x1 x2 x3 M).mp h
  have h3 : ((none : Option (Int32 × Mem)) = some (v, M1)) = False := eq_false (by intro q; cases q)
  rw [h3] at h2
  exact w_X11_isNot_0 (fun v2 M2 h => by cases h; exact ⟨rfl, rfl⟩) h2

noncomputable abbrev f_X11_isNot := b_X11_isNot
theorem s_X11_isNot {X : Nat × (Nat → Int32)} {al : Bool} {n : Nat} {a0 : Nat} {x1 : Int32} {x2 : Int32} {x3 : Int32} {M : Mem} {v : Int32} {M1 : Mem} (h : f_X11_isNot n a0 x1 x2 x3 M = some (v, M1)) : AE yX11_isNot cX11_isNot 4 (some .boolean) al n X [.ref a0, .int x1, .int x2, .int x3] M (some (.int v)) M1 := sb_X11_isNot h
set_option maxHeartbeats 4000000 in
set_option maxRecDepth 100000 in
noncomputable def T_X11_asks_0.{u} {α : Sort u} (R : Int32 → Mem → α) (N : α) (cl : Nat → List Value → Mem → Option (Int32 × Mem)) (n : Nat) (a0 : Nat) (x1 : Int32) (M : Mem) : α := gd (fO M a0 11) N (if (M.2.2.1 a0 30) = 0 then bnd (M.2.2.2.2 a0 41) N (fun r4 => gd (fA M r4 1 (M.2.2.1 a0 43)) N (bnd2 (cl 1 [.ref a0, .int (M.2.2.1 a0 43), .int x1] (wI (wI M a0 43 ((M.2.2.1 a0 43) + 1)) r4 ((M.2.2.1 a0 43).toNatClampNeg) x1)) N (fun v10 M11 => gd (fO M11 a0 11) N (bnd (M11.2.2.2.2 a0 40) N (fun r17 => gd (fA M11 r17 1 (M.2.2.1 a0 43)) N (R v10 (wI M11 r17 ((M.2.2.1 a0 43).toNatClampNeg) v10))))))) else R 0 M)
set_option maxHeartbeats 4000000 in
set_option maxRecDepth 100000 in
theorem n_X11_asks_0.{u, v} {α : Sort u} {β : Sort v} (h : α → β) (R : Int32 → Mem → α) (N : α) (cl : Nat → List Value → Mem → Option (Int32 × Mem)) (n : Nat) (a0 : Nat) (x1 : Int32) (M : Mem) : h (T_X11_asks_0 R N cl n a0 x1 M) = T_X11_asks_0 (fun v M => h (R v M)) (h N) cl n a0 x1 M := by
  simp only [T_X11_asks_0, nat_ite h, nat_gd h, nat_bnd h, nat_bnd2 h]
set_option maxHeartbeats 4000000 in
set_option maxRecDepth 100000 in
theorem w_X11_asks_0 {X : Nat × (Nat → Int32)} {al : Bool} {n : Nat} {Q : Option Value → Mem → Prop} {R : Int32 → Mem → Prop} (hR : ∀ v M, R v M → Q (some (.int v)) M) {cl : Nat → List Value → Mem → Option (Int32 × Mem)} (hc_X11_asks : ∀ {a0 : Nat} {x1 : Int32} {M : Mem} {v : Int32} {M1 : Mem}, cl 0 [.ref a0, .int x1] M = some (v, M1) → ∃ k, n = k + 1 ∧ AE yX11_asks cX11_asks 4 (some .int) al k X [.ref a0, .int x1] M (some (.int v)) M1) (hc_X11_provenBy : ∀ {a0 : Nat} {x1 : Int32} {x2 : Int32} {M : Mem} {v : Int32} {M1 : Mem}, cl 1 [.ref a0, .int x1, .int x2] M = some (v, M1) → ∃ k, n = k + 1 ∧ AE yX11_provenBy cX11_provenBy 11 (some .int) al k X [.ref a0, .int x1, .int x2] M (some (.int v)) M1) {a0 : Nat} {x1 : Int32} {M : Mem} (h : T_X11_asks_0 R False cl n a0 x1 M) : AW X (RX11, cX11_asks, 4, (some .int), false, al, n) 0 0 0 [(0, .ref a0), (1, .int x1)] [] M Q := by
  unfold T_X11_asks_0 at h
  refine a_aload_n dX11_asks_0 rfl rfl ?_
  obtain ⟨⟨ga1, gs2⟩, h⟩ := gd_t h
  refine a_get (v := .int (M.2.2.1 a0 30)) dX11_asks_1 fl_11_163 ga1 gs2 rfl ?_
  refine a_if_eq 9 dX11_asks_4 (by decide) (fun c3 => ?_) (fun c3 => ?_)
  · replace h := ite_t c3 h
    refine a_aload_n dX11_asks_9 rfl rfl ?_
    refine a_get (v := .int (M.2.2.1 a0 43)) dX11_asks_10 fl_11_283 ga1 gs2 rfl ?_
    refine a_istore_n dX11_asks_13 rfl (Nat.le_of_ble_eq_true rfl) (lv2 := [(2, .int (M.2.2.1 a0 43)), (0, .ref a0), (1, .int x1)]) rfl ?_
    refine a_aload_n dX11_asks_14 rfl rfl ?_
    refine a_dup dX11_asks_15 rfl ?_
    refine a_get (v := .int (M.2.2.1 a0 43)) dX11_asks_16 fl_11_283 ga1 gs2 rfl ?_
    refine a_iconst (v := 1) dX11_asks_19 (by decide) ?_
    refine a_iadd dX11_asks_20 ?_
    refine a_putI dX11_asks_21 (Or.inl ⟨fl_11_283, Or.inl rfl⟩) rfl ga1 gs2 rfl rfl ?_
    refine a_aload_n dX11_asks_24 rfl rfl ?_
    obtain ⟨r4, e5, h⟩ := bnd_t h
    refine a_get (v := .ref r4) dX11_asks_25 fl_11_90 ga1 gs2 (gvR e5 rfl) ?_
    refine a_iload_n dX11_asks_28 rfl rfl ?_
    refine a_iload_n dX11_asks_29 rfl rfl ?_
    obtain ⟨⟨ga6, gn7, gs8, gi9⟩, h⟩ := gd_t h
    refine a_iastore dX11_asks_30 ga6 gs8 gi9 ?_
    refine a_aload_n dX11_asks_31 rfl rfl ?_
    refine a_iload_n dX11_asks_32 rfl rfl ?_
    refine a_iload_n dX11_asks_33 rfl rfl ?_
    obtain ⟨v10, M11, e12, h⟩ := bnd2_t h
    obtain ⟨n13, en14, e12⟩ := hc_X11_provenBy e12
    refine e_callV (As := [.int (M.2.2.1 a0 43), .int x1]) (st := []) (a := a0) (ci := 11) false dX11_asks_34 mw_X11_provenBy (Or.inl ⟨rfl, ml_X11_289⟩) im_X11_provenBy se_X11_provenBy (by decide) ga1 gs2 rfl (Nat.le_of_ble_eq_true rfl) en14 e12 ?_
    refine a_istore_n dX11_asks_37 rfl (Nat.le_of_ble_eq_true rfl) (lv2 := [(3, .int v10), (2, .int (M.2.2.1 a0 43)), (0, .ref a0), (1, .int x1)]) rfl ?_
    refine a_aload_n dX11_asks_38 rfl rfl ?_
    obtain ⟨⟨ga15, gs16⟩, h⟩ := gd_t h
    obtain ⟨r17, e18, h⟩ := bnd_t h
    refine a_get (v := .ref r17) dX11_asks_39 fl_11_87 ga15 gs16 (gvR e18 rfl) ?_
    refine a_iload_n dX11_asks_42 rfl rfl ?_
    refine a_iload_n dX11_asks_43 rfl rfl ?_
    obtain ⟨⟨ga19, gn20, gs21, gi22⟩, h⟩ := gd_t h
    refine a_iastore dX11_asks_44 ga19 gs21 gi22 ?_
    refine a_iload_n dX11_asks_45 rfl rfl ?_
    exact a_iret dX11_asks_46 rfl (hR _ _ h)
  · replace h := ite_f c3 h
    refine a_iconst (v := 0) dX11_asks_7 (by decide) ?_
    exact a_iret dX11_asks_8 rfl (hR _ _ h)
noncomputable def b_X11_asks (cl : Nat → List Value → Mem → Option (Int32 × Mem)) (n : Nat) (a0 : Nat) (x1 : Int32) (M : Mem) : Option (Int32 × Mem) := T_X11_asks_0 (fun v M => some (v, M)) none cl n a0 x1 M
set_option maxHeartbeats 4000000 in
set_option maxRecDepth 100000 in
theorem sb_X11_asks {X : Nat × (Nat → Int32)} {al : Bool} {n : Nat} {cl : Nat → List Value → Mem → Option (Int32 × Mem)} (hc_X11_asks : ∀ {a0 : Nat} {x1 : Int32} {M : Mem} {v : Int32} {M1 : Mem}, cl 0 [.ref a0, .int x1] M = some (v, M1) → ∃ k, n = k + 1 ∧ AE yX11_asks cX11_asks 4 (some .int) al k X [.ref a0, .int x1] M (some (.int v)) M1) (hc_X11_provenBy : ∀ {a0 : Nat} {x1 : Int32} {x2 : Int32} {M : Mem} {v : Int32} {M1 : Mem}, cl 1 [.ref a0, .int x1, .int x2] M = some (v, M1) → ∃ k, n = k + 1 ∧ AE yX11_provenBy cX11_provenBy 11 (some .int) al k X [.ref a0, .int x1, .int x2] M (some (.int v)) M1) {a0 : Nat} {x1 : Int32} {M : Mem} {v : Int32} {M1 : Mem} (h : b_X11_asks cl n a0 x1 M = some (v, M1)) : AE yX11_asks cX11_asks 4 (some .int) al n X [.ref a0, .int x1] M (some (.int v)) M1 := by
  refine AM.of false (by decide +kernel) (by intro h; cases h) (Nat.le_of_ble_eq_true rfl) ?_
  have h2 : T_X11_asks_0 (fun v2 M2 => some (v2, M2) = some (v, M1)) (none = some (v, M1)) cl n a0 x1 M := (n_X11_asks_0 (fun o => o = some (v, M1)) (fun v M => some (v, M)) none cl n a0 x1 M).mp h
  have h3 : ((none : Option (Int32 × Mem)) = some (v, M1)) = False := eq_false (by intro q; cases q)
  rw [h3] at h2
  exact w_X11_asks_0 (fun v2 M2 h => by cases h; exact ⟨rfl, rfl⟩) hc_X11_asks hc_X11_provenBy h2

def ix_X11_provenBy (c : Nat) : List Nat := if c = 0 then [0, 1, 2] else if c = 250 then [0, 1, 3, 4] else []
def PW_X11_provenBy (X : Nat × (Nat → Int32)) (al : Bool) (n : Nat) (Q : Option Value → Mem → Prop) (c : Nat) (l : List Value) (M : Mem) : Prop := AW X (RX11, cX11_provenBy, 11, (some .int), false, al, n) 0 0 c (List.zip (ix_X11_provenBy c) l) (l.drop (ix_X11_provenBy c).length) M Q
set_option maxHeartbeats 4000000 in
set_option maxRecDepth 100000 in
noncomputable def T_X11_provenBy_0.{u} {α : Sort u} (J : Nat → List Value → Mem → α) (R : Int32 → Mem → α) (N : α) (cl : Nat → List Value → Mem → Option (Int32 × Mem)) (n : Nat) (a0 : Nat) (x1 : Int32) (x2 : Int32) (M : Mem) : α := gd (fO M a0 11) N (bnd (M.2.2.2.2 a0 20) N (fun r3 => gd (fA M r3 1 x1) N (if (M.2.2.1 r3 (x1.toNatClampNeg)) = 0 then bnd (M.2.2.2.2 a0 21) N (fun r217 => gd (fA M r217 1 x1) N (if 0 ≤ (M.2.2.1 r217 (x1.toNatClampNeg)) then bnd (M.2.2.2.2 a0 42) N (fun r224 => gd (fA M r224 1 (M.2.2.1 r217 (x1.toNatClampNeg))) N (R (M.2.2.1 r224 ((M.2.2.1 r217 (x1.toNatClampNeg)).toNatClampNeg)) M)) else bnd (M.2.2.2.2 a0 11) N (fun r230 => gd (fA M r230 1 ((-1) - (M.2.2.1 r217 (x1.toNatClampNeg)))) N (R (M.2.2.1 r230 (((-1) - (M.2.2.1 r217 (x1.toNatClampNeg))).toNatClampNeg)) M)))) else if (M.2.2.1 r3 (x1.toNatClampNeg)) = 1 then bnd (M.2.2.2.2 a0 42) N (fun r186 => bnd (M.2.2.2.2 a0 21) N (fun r188 => gd (fA M r188 1 x1) N (gd (fA M r186 1 x2) N (bnd2 (cl 0 [.ref a0, .int (x2 + 1)] (wI M r186 (x2.toNatClampNeg) (M.2.2.1 r188 (x1.toNatClampNeg)))) N (fun v198 M199 => gd (fO M199 a0 11) N (if (M199.2.2.1 a0 30) = 0 then bnd (M199.2.2.2.2 a0 21) N (fun r206 => gd (fA M199 r206 1 x1) N (bnd2 (cal n (fun n => f_X11_formula n a0 9 (M199.2.2.1 r206 (x1.toNatClampNeg)) v198 M199)) N (fun v212 M213 => R v212 M213))) else R 0 M199)))))) else bnd2 (cl 0 [.ref a0, .int x2] M) N (fun v11 M12 => gd (fO M12 a0 11) N (bnd (M12.2.2.2.2 a0 20) N (fun r18 => gd (fA M12 r18 1 x1) N (if (M12.2.2.1 r18 (x1.toNatClampNeg)) = 2 then bnd2 (cl 0 [.ref a0, .int x2] M12) N (fun v25 M26 => gd (fO M26 a0 11) N (bnd2 (cal n (fun n => f_X11_isNot n a0 v11 9 (M.2.2.1 a0 43) M26)) N (fun v32 M33 => if v32 = 0 then gd (fO M33 a0 11) N (bnd (M33.2.2.2.2 a0 2) N (fun r40 => gd (fA M33 r40 1 v11) N (if (M33.2.2.1 r40 (v11.toNatClampNeg)) = v25 then bnd (M33.2.2.2.2 a0 3) N (fun r47 => gd (fA M33 r47 1 v11) N (R (M33.2.2.1 r47 (v11.toNatClampNeg)) M33)) else bnd (M33.2.2.2.2 a0 36) N (fun r53 => gd (fA M33 r53 1 (M12.2.2.1 a0 43)) N (bnd2 (cal n (fun n => f_X11_fails n a0 5 (M33.2.2.1 r53 ((M12.2.2.1 a0 43).toNatClampNeg)) M33)) N (fun _ M59 => gd (fO M59 a0 11) N (bnd (M59.2.2.2.2 a0 3) N (fun r65 => gd (fA M59 r65 1 v11) N (R (M59.2.2.1 r65 (v11.toNatClampNeg)) M59))))))))) else R 0 M33))) else if (M12.2.2.1 r18 (x1.toNatClampNeg)) = 3 then bnd2 (cl 0 [.ref a0, .int x2] M12) N (fun v72 M73 => gd (fO M73 a0 11) N (if (M73.2.2.1 a0 30) = 0 then bnd2 (cal n (fun n => f_X11_formula n a0 10 v11 v72 M73)) N (fun v80 M81 => R v80 M81) else R 0 M73)) else if (M12.2.2.1 r18 (x1.toNatClampNeg)) = 4 then J 250 [.ref a0, .int x1, .int (M.2.2.1 a0 43), .int v11] M12 else if (M12.2.2.1 r18 (x1.toNatClampNeg)) = 5 then J 250 [.ref a0, .int x1, .int (M.2.2.1 a0 43), .int v11] M12 else if (M12.2.2.1 r18 (x1.toNatClampNeg)) = 6 then if (M12.2.2.1 a0 30) = 0 then bnd (M12.2.2.2.2 a0 21) N (fun r89 => gd (fA M12 r89 1 x1) N (bnd2 (cal n (fun n => f_X11_formula n a0 11 v11 (M12.2.2.1 r89 (x1.toNatClampNeg)) M12)) N (fun v95 M96 => R v95 M96))) else R 0 M12 else if (M12.2.2.1 r18 (x1.toNatClampNeg)) = 7 then if (M12.2.2.1 a0 30) = 0 then bnd (M12.2.2.2.2 a0 21) N (fun r102 => gd (fA M12 r102 1 x1) N (bnd2 (cal n (fun n => f_X11_formula n a0 11 (M12.2.2.1 r102 (x1.toNatClampNeg)) v11 M12)) N (fun v108 M109 => R v108 M109))) else R 0 M12 else if (M12.2.2.1 r18 (x1.toNatClampNeg)) = 8 then bnd2 (cal n (fun n => f_X11_isNot n a0 v11 11 (M.2.2.1 a0 43) M12)) N (fun v114 M115 => if v114 = 0 then gd (fO M115 a0 11) N (bnd (M115.2.2.2.2 a0 42) N (fun r122 => bnd (M115.2.2.2.2 a0 2) N (fun r124 => gd (fA M115 r124 1 v11) N (gd (fA M115 r122 1 x2) N (bnd2 (cl 0 [.ref a0, .int (x2 + 1)] (wI M115 r122 (x2.toNatClampNeg) (M115.2.2.1 r124 (v11.toNatClampNeg)))) N (fun v134 M135 => gd (fO M135 a0 11) N (bnd (M135.2.2.2.2 a0 42) N (fun r141 => bnd (M135.2.2.2.2 a0 3) N (fun r143 => gd (fA M135 r143 1 v11) N (gd (fA M135 r141 1 x2) N (bnd2 (cl 0 [.ref a0, .int (x2 + 1)] (wI M135 r141 (x2.toNatClampNeg) (M135.2.2.1 r143 (v11.toNatClampNeg)))) N (fun v153 M154 => gd (fO M154 a0 11) N (if (M154.2.2.1 a0 30) = 0 then if v134 = v153 then R v134 M154 else bnd (M154.2.2.2.2 a0 36) N (fun r162 => gd (fA M154 r162 1 (M135.2.2.1 a0 43)) N (bnd2 (cal n (fun n => f_X11_fails n a0 5 (M154.2.2.1 r162 ((M135.2.2.1 a0 43).toNatClampNeg)) M154)) N (fun _ M168 => R v134 M168))) else R v134 M154))))))))))))) else R 0 M115) else bnd2 (cal n (fun n => f_X11_isNot n a0 v11 8 (M.2.2.1 a0 43) M12)) N (fun v172 M173 => if v172 = 0 then gd (fO M173 a0 11) N (bnd (M173.2.2.2.2 a0 21) N (fun r180 => gd (fA M173 r180 1 x1) N (R (M173.2.2.1 r180 (x1.toNatClampNeg)) M173))) else R 0 M173))))))))
set_option maxHeartbeats 4000000 in
set_option maxRecDepth 100000 in
theorem n_X11_provenBy_0.{u, v} {α : Sort u} {β : Sort v} (h : α → β) (J : Nat → List Value → Mem → α) (R : Int32 → Mem → α) (N : α) (cl : Nat → List Value → Mem → Option (Int32 × Mem)) (n : Nat) (a0 : Nat) (x1 : Int32) (x2 : Int32) (M : Mem) : h (T_X11_provenBy_0 J R N cl n a0 x1 x2 M) = T_X11_provenBy_0 (fun c l M => h (J c l M)) (fun v M => h (R v M)) (h N) cl n a0 x1 x2 M := by
  simp only [T_X11_provenBy_0, nat_ite h, nat_gd h, nat_bnd h, nat_bnd2 h]
set_option maxHeartbeats 4000000 in
set_option maxRecDepth 100000 in
theorem w_X11_provenBy_0 {X : Nat × (Nat → Int32)} {al : Bool} {n : Nat} {Q : Option Value → Mem → Prop} {J : Nat → List Value → Mem → Prop} (hJ : ∀ c l M, J c l M → PW_X11_provenBy X al n Q c l M) {R : Int32 → Mem → Prop} (hR : ∀ v M, R v M → Q (some (.int v)) M) {cl : Nat → List Value → Mem → Option (Int32 × Mem)} (hc_X11_asks : ∀ {a0 : Nat} {x1 : Int32} {M : Mem} {v : Int32} {M1 : Mem}, cl 0 [.ref a0, .int x1] M = some (v, M1) → ∃ k, n = k + 1 ∧ AE yX11_asks cX11_asks 4 (some .int) al k X [.ref a0, .int x1] M (some (.int v)) M1) (hc_X11_provenBy : ∀ {a0 : Nat} {x1 : Int32} {x2 : Int32} {M : Mem} {v : Int32} {M1 : Mem}, cl 1 [.ref a0, .int x1, .int x2] M = some (v, M1) → ∃ k, n = k + 1 ∧ AE yX11_provenBy cX11_provenBy 11 (some .int) al k X [.ref a0, .int x1, .int x2] M (some (.int v)) M1) {a0 : Nat} {x1 : Int32} {x2 : Int32} {M : Mem} (h : T_X11_provenBy_0 J R False cl n a0 x1 x2 M) : AW X (RX11, cX11_provenBy, 11, (some .int), false, al, n) 0 0 0 [(0, .ref a0), (1, .int x1), (2, .int x2)] [] M Q := by
  unfold T_X11_provenBy_0 at h
  refine a_aload_n dX11_provenBy_0 rfl rfl ?_
  obtain ⟨⟨ga1, gs2⟩, h⟩ := gd_t h
  refine a_get (v := .int (M.2.2.1 a0 43)) dX11_provenBy_1 fl_11_283 ga1 gs2 rfl ?_
  refine a_istore_n dX11_provenBy_4 rfl (Nat.le_of_ble_eq_true rfl) (lv2 := [(3, .int (M.2.2.1 a0 43)), (0, .ref a0), (1, .int x1), (2, .int x2)]) rfl ?_
  refine a_aload_n dX11_provenBy_5 rfl rfl ?_
  obtain ⟨r3, e4, h⟩ := bnd_t h
  refine a_get (v := .ref r3) dX11_provenBy_6 fl_11_59 ga1 gs2 (gvR e4 rfl) ?_
  refine a_iload_n dX11_provenBy_9 rfl rfl ?_
  obtain ⟨⟨ga5, gn6, gs7, gi8⟩, h⟩ := gd_t h
  refine a_iaload dX11_provenBy_10 ga5 gs7 gi8 ?_
  refine a_if_ne 51 dX11_provenBy_11 (by decide) (fun c9 => ?_) (fun c9 => ?_)
  · replace h := ite_f c9 h
    refine a_aload_n dX11_provenBy_51 rfl rfl ?_
    refine a_get (v := .ref r3) dX11_provenBy_52 fl_11_59 ga1 gs2 (gvR e4 rfl) ?_
    refine a_iload_n dX11_provenBy_55 rfl rfl ?_
    refine a_iaload dX11_provenBy_56 ga5 gs7 gi8 ?_
    refine a_iconst (v := 1) dX11_provenBy_57 (by decide) ?_
    refine a_icmp_ne 108 dX11_provenBy_58 (by decide) (fun c10 => ?_) (fun c10 => ?_)
    · replace h := ite_f c10 h
      refine a_aload_n dX11_provenBy_108 rfl rfl ?_
      refine a_iload_n dX11_provenBy_109 rfl rfl ?_
      obtain ⟨v11, M12, e13, h⟩ := bnd2_t h
      obtain ⟨n14, en15, e13⟩ := hc_X11_asks e13
      refine e_callV (As := [.int x2]) (st := []) (a := a0) (ci := 11) false dX11_provenBy_110 mw_X11_asks (Or.inl ⟨rfl, ml_X11_286⟩) im_X11_asks se_X11_asks (by decide) ga1 gs2 rfl (Nat.le_of_ble_eq_true rfl) en15 e13 ?_
      refine a_istore dX11_provenBy_113 (Nat.le_of_ble_eq_true rfl) (lv2 := [(4, .int v11), (3, .int (M.2.2.1 a0 43)), (0, .ref a0), (1, .int x1), (2, .int x2)]) rfl ?_
      refine a_aload_n dX11_provenBy_115 rfl rfl ?_
      obtain ⟨⟨ga16, gs17⟩, h⟩ := gd_t h
      refine a_get (v := .int (M12.2.2.1 a0 43)) dX11_provenBy_116 fl_11_283 ga16 gs17 rfl ?_
      refine a_istore dX11_provenBy_119 (Nat.le_of_ble_eq_true rfl) (lv2 := [(5, .int (M12.2.2.1 a0 43)), (4, .int v11), (3, .int (M.2.2.1 a0 43)), (0, .ref a0), (1, .int x1), (2, .int x2)]) rfl ?_
      refine a_aload_n dX11_provenBy_121 rfl rfl ?_
      obtain ⟨r18, e19, h⟩ := bnd_t h
      refine a_get (v := .ref r18) dX11_provenBy_122 fl_11_59 ga16 gs17 (gvR e19 rfl) ?_
      refine a_iload_n dX11_provenBy_125 rfl rfl ?_
      obtain ⟨⟨ga20, gn21, gs22, gi23⟩, h⟩ := gd_t h
      refine a_iaload dX11_provenBy_126 ga20 gs22 gi23 ?_
      by_cases c24 : (M12.2.2.1 r18 (x1.toNatClampNeg)) = 2
      · replace h := ite_t c24 h
        refine a_tableIn (off := 41) 168 dX11_provenBy_127 (by rw [c24]; decide) (by rw [c24]; decide) (by rw [c24]; rfl) (by decide) ?_
        refine a_aload_n dX11_provenBy_168 rfl rfl ?_
        refine a_iload_n dX11_provenBy_169 rfl rfl ?_
        obtain ⟨v25, M26, e27, h⟩ := bnd2_t h
        obtain ⟨n28, en29, e27⟩ := hc_X11_asks e27
        refine e_callV (As := [.int x2]) (st := []) (a := a0) (ci := 11) false dX11_provenBy_170 mw_X11_asks (Or.inl ⟨rfl, ml_X11_286⟩) im_X11_asks se_X11_asks (by decide) ga16 gs17 rfl (Nat.le_of_ble_eq_true rfl) en29 e27 ?_
        refine a_istore dX11_provenBy_173 (Nat.le_of_ble_eq_true rfl) (lv2 := [(6, .int v25), (5, .int (M12.2.2.1 a0 43)), (4, .int v11), (3, .int (M.2.2.1 a0 43)), (0, .ref a0), (1, .int x1), (2, .int x2)]) rfl ?_
        refine a_aload_n dX11_provenBy_175 rfl rfl ?_
        refine a_iload dX11_provenBy_176 rfl ?_
        refine a_bipush (v := 9) dX11_provenBy_178 (by decide) ?_
        refine a_iload_n dX11_provenBy_180 rfl rfl ?_
        obtain ⟨⟨ga30, gs31⟩, h⟩ := gd_t h
        obtain ⟨v32, M33, e34, h⟩ := bnd2_t h
        obtain ⟨n35, en36, e34⟩ := cal_t e34
        refine e_callV (As := [.int v11, .int 9, .int (M.2.2.1 a0 43)]) (st := []) (a := a0) (ci := 11) false dX11_provenBy_181 mw_X11_isNot (Or.inl ⟨rfl, ml_X11_293⟩) im_X11_isNot se_X11_isNot (by decide) ga30 gs31 rfl (Nat.le_of_ble_eq_true rfl) en36 (s_X11_isNot e34) ?_
        refine a_if_eq 189 dX11_provenBy_184 (by decide) (fun c37 => ?_) (fun c37 => ?_)
        · replace h := ite_t c37 h
          refine a_aload_n dX11_provenBy_189 rfl rfl ?_
          obtain ⟨⟨ga38, gs39⟩, h⟩ := gd_t h
          obtain ⟨r40, e41, h⟩ := bnd_t h
          refine a_get (v := .ref r40) dX11_provenBy_190 fl_11_17 ga38 gs39 (gvR e41 rfl) ?_
          refine a_iload dX11_provenBy_193 rfl ?_
          obtain ⟨⟨ga42, gn43, gs44, gi45⟩, h⟩ := gd_t h
          refine a_iaload dX11_provenBy_195 ga42 gs44 gi45 ?_
          refine a_iload dX11_provenBy_196 rfl ?_
          refine a_icmp_eq 213 dX11_provenBy_198 (by decide) (fun c46 => ?_) (fun c46 => ?_)
          · replace h := ite_t c46 h
            refine a_aload_n dX11_provenBy_213 rfl rfl ?_
            obtain ⟨r47, e48, h⟩ := bnd_t h
            refine a_get (v := .ref r47) dX11_provenBy_214 fl_11_20 ga38 gs39 (gvR e48 rfl) ?_
            refine a_iload dX11_provenBy_217 rfl ?_
            obtain ⟨⟨ga49, gn50, gs51, gi52⟩, h⟩ := gd_t h
            refine a_iaload dX11_provenBy_219 ga49 gs51 gi52 ?_
            exact a_iret dX11_provenBy_220 rfl (hR _ _ h)
          · replace h := ite_f c46 h
            refine a_aload_n dX11_provenBy_201 rfl rfl ?_
            refine a_iconst (v := 5) dX11_provenBy_202 (by decide) ?_
            refine a_aload_n dX11_provenBy_203 rfl rfl ?_
            obtain ⟨r53, e54, h⟩ := bnd_t h
            refine a_get (v := .ref r53) dX11_provenBy_204 fl_11_78 ga38 gs39 (gvR e54 rfl) ?_
            refine a_iload dX11_provenBy_207 rfl ?_
            obtain ⟨⟨ga55, gn56, gs57, gi58⟩, h⟩ := gd_t h
            refine a_iaload dX11_provenBy_209 ga55 gs57 gi58 ?_
            obtain ⟨_, M59, e60, h⟩ := bnd2_t h
            obtain ⟨n61, en62, e60⟩ := cal_t e60
            refine e_callV (As := [.int 5, .int (M33.2.2.1 r53 ((M12.2.2.1 a0 43).toNatClampNeg))]) (st := []) (a := a0) (ci := 11) false dX11_provenBy_210 mw_X11_fails (Or.inl ⟨rfl, ml_X11_209⟩) im_X11_fails se_X11_fails (by decide) ga38 gs39 rfl (Nat.le_of_ble_eq_true rfl) en62 (s_X11_fails e60) ?_
            refine a_aload_n dX11_provenBy_213 rfl rfl ?_
            obtain ⟨⟨ga63, gs64⟩, h⟩ := gd_t h
            obtain ⟨r65, e66, h⟩ := bnd_t h
            refine a_get (v := .ref r65) dX11_provenBy_214 fl_11_20 ga63 gs64 (gvR e66 rfl) ?_
            refine a_iload dX11_provenBy_217 rfl ?_
            obtain ⟨⟨ga67, gn68, gs69, gi70⟩, h⟩ := gd_t h
            refine a_iaload dX11_provenBy_219 ga67 gs69 gi70 ?_
            exact a_iret dX11_provenBy_220 rfl (hR _ _ h)
        · replace h := ite_f c37 h
          refine a_iconst (v := 0) dX11_provenBy_187 (by decide) ?_
          exact a_iret dX11_provenBy_188 rfl (hR _ _ h)
      replace h := ite_f c24 h
      by_cases c71 : (M12.2.2.1 r18 (x1.toNatClampNeg)) = 3
      · replace h := ite_t c71 h
        refine a_tableIn (off := 94) 221 dX11_provenBy_127 (by rw [c71]; decide) (by rw [c71]; decide) (by rw [c71]; rfl) (by decide) ?_
        refine a_aload_n dX11_provenBy_221 rfl rfl ?_
        refine a_iload_n dX11_provenBy_222 rfl rfl ?_
        obtain ⟨v72, M73, e74, h⟩ := bnd2_t h
        obtain ⟨n75, en76, e74⟩ := hc_X11_asks e74
        refine e_callV (As := [.int x2]) (st := []) (a := a0) (ci := 11) false dX11_provenBy_223 mw_X11_asks (Or.inl ⟨rfl, ml_X11_286⟩) im_X11_asks se_X11_asks (by decide) ga16 gs17 rfl (Nat.le_of_ble_eq_true rfl) en76 e74 ?_
        refine a_istore dX11_provenBy_226 (Nat.le_of_ble_eq_true rfl) (lv2 := [(7, .int v72), (5, .int (M12.2.2.1 a0 43)), (4, .int v11), (3, .int (M.2.2.1 a0 43)), (0, .ref a0), (1, .int x1), (2, .int x2)]) rfl ?_
        refine a_aload_n dX11_provenBy_228 rfl rfl ?_
        obtain ⟨⟨ga77, gs78⟩, h⟩ := gd_t h
        refine a_get (v := .int (M73.2.2.1 a0 30)) dX11_provenBy_229 fl_11_163 ga77 gs78 rfl ?_
        refine a_if_eq 239 dX11_provenBy_232 (by decide) (fun c79 => ?_) (fun c79 => ?_)
        · replace h := ite_t c79 h
          refine a_aload_n dX11_provenBy_239 rfl rfl ?_
          refine a_bipush (v := 10) dX11_provenBy_240 (by decide) ?_
          refine a_iload dX11_provenBy_242 rfl ?_
          refine a_iload dX11_provenBy_244 rfl ?_
          obtain ⟨v80, M81, e82, h⟩ := bnd2_t h
          obtain ⟨n83, en84, e82⟩ := cal_t e82
          refine e_callV (As := [.int 10, .int v11, .int v72]) (st := []) (a := a0) (ci := 11) false dX11_provenBy_246 mw_X11_formula (Or.inl ⟨rfl, ml_X11_130⟩) im_X11_formula se_X11_formula (by decide) ga77 gs78 rfl (Nat.le_of_ble_eq_true rfl) en84 (s_X11_formula e82) ?_
          exact a_iret dX11_provenBy_249 rfl (hR _ _ h)
        · replace h := ite_f c79 h
          refine a_iconst (v := 0) dX11_provenBy_235 (by decide) ?_
          refine a_goto 249 dX11_provenBy_236 (by decide) ?_
          exact a_iret dX11_provenBy_249 rfl (hR _ _ h)
      replace h := ite_f c71 h
      by_cases c85 : (M12.2.2.1 r18 (x1.toNatClampNeg)) = 4
      · replace h := ite_t c85 h
        refine a_tableIn (off := 123) 250 dX11_provenBy_127 (by rw [c85]; decide) (by rw [c85]; decide) (by rw [c85]; rfl) (by decide) ?_
        exact a_lv (lv2 := [(0, .ref a0), (1, .int x1), (3, .int (M.2.2.1 a0 43)), (4, .int v11)]) (fa_cons rfl (fa_cons rfl (fa_cons rfl (fa_cons rfl fa_nil)))) (hJ _ _ _ h)
      replace h := ite_f c85 h
      by_cases c86 : (M12.2.2.1 r18 (x1.toNatClampNeg)) = 5
      · replace h := ite_t c86 h
        refine a_tableIn (off := 123) 250 dX11_provenBy_127 (by rw [c86]; decide) (by rw [c86]; decide) (by rw [c86]; rfl) (by decide) ?_
        exact a_lv (lv2 := [(0, .ref a0), (1, .int x1), (3, .int (M.2.2.1 a0 43)), (4, .int v11)]) (fa_cons rfl (fa_cons rfl (fa_cons rfl (fa_cons rfl fa_nil)))) (hJ _ _ _ h)
      replace h := ite_f c86 h
      by_cases c87 : (M12.2.2.1 r18 (x1.toNatClampNeg)) = 6
      · replace h := ite_t c87 h
        refine a_tableIn (off := 165) 292 dX11_provenBy_127 (by rw [c87]; decide) (by rw [c87]; decide) (by rw [c87]; rfl) (by decide) ?_
        refine a_aload_n dX11_provenBy_292 rfl rfl ?_
        refine a_get (v := .int (M12.2.2.1 a0 30)) dX11_provenBy_293 fl_11_163 ga16 gs17 rfl ?_
        refine a_if_eq 303 dX11_provenBy_296 (by decide) (fun c88 => ?_) (fun c88 => ?_)
        · replace h := ite_t c88 h
          refine a_aload_n dX11_provenBy_303 rfl rfl ?_
          refine a_bipush (v := 11) dX11_provenBy_304 (by decide) ?_
          refine a_iload dX11_provenBy_306 rfl ?_
          refine a_aload_n dX11_provenBy_308 rfl rfl ?_
          obtain ⟨r89, e90, h⟩ := bnd_t h
          refine a_get (v := .ref r89) dX11_provenBy_309 fl_11_62 ga16 gs17 (gvR e90 rfl) ?_
          refine a_iload_n dX11_provenBy_312 rfl rfl ?_
          obtain ⟨⟨ga91, gn92, gs93, gi94⟩, h⟩ := gd_t h
          refine a_iaload dX11_provenBy_313 ga91 gs93 gi94 ?_
          obtain ⟨v95, M96, e97, h⟩ := bnd2_t h
          obtain ⟨n98, en99, e97⟩ := cal_t e97
          refine e_callV (As := [.int 11, .int v11, .int (M12.2.2.1 r89 (x1.toNatClampNeg))]) (st := []) (a := a0) (ci := 11) false dX11_provenBy_314 mw_X11_formula (Or.inl ⟨rfl, ml_X11_130⟩) im_X11_formula se_X11_formula (by decide) ga16 gs17 rfl (Nat.le_of_ble_eq_true rfl) en99 (s_X11_formula e97) ?_
          exact a_iret dX11_provenBy_317 rfl (hR _ _ h)
        · replace h := ite_f c88 h
          refine a_iconst (v := 0) dX11_provenBy_299 (by decide) ?_
          refine a_goto 317 dX11_provenBy_300 (by decide) ?_
          exact a_iret dX11_provenBy_317 rfl (hR _ _ h)
      replace h := ite_f c87 h
      by_cases c100 : (M12.2.2.1 r18 (x1.toNatClampNeg)) = 7
      · replace h := ite_t c100 h
        refine a_tableIn (off := 191) 318 dX11_provenBy_127 (by rw [c100]; decide) (by rw [c100]; decide) (by rw [c100]; rfl) (by decide) ?_
        refine a_aload_n dX11_provenBy_318 rfl rfl ?_
        refine a_get (v := .int (M12.2.2.1 a0 30)) dX11_provenBy_319 fl_11_163 ga16 gs17 rfl ?_
        refine a_if_eq 329 dX11_provenBy_322 (by decide) (fun c101 => ?_) (fun c101 => ?_)
        · replace h := ite_t c101 h
          refine a_aload_n dX11_provenBy_329 rfl rfl ?_
          refine a_bipush (v := 11) dX11_provenBy_330 (by decide) ?_
          refine a_aload_n dX11_provenBy_332 rfl rfl ?_
          obtain ⟨r102, e103, h⟩ := bnd_t h
          refine a_get (v := .ref r102) dX11_provenBy_333 fl_11_62 ga16 gs17 (gvR e103 rfl) ?_
          refine a_iload_n dX11_provenBy_336 rfl rfl ?_
          obtain ⟨⟨ga104, gn105, gs106, gi107⟩, h⟩ := gd_t h
          refine a_iaload dX11_provenBy_337 ga104 gs106 gi107 ?_
          refine a_iload dX11_provenBy_338 rfl ?_
          obtain ⟨v108, M109, e110, h⟩ := bnd2_t h
          obtain ⟨n111, en112, e110⟩ := cal_t e110
          refine e_callV (As := [.int 11, .int (M12.2.2.1 r102 (x1.toNatClampNeg)), .int v11]) (st := []) (a := a0) (ci := 11) false dX11_provenBy_340 mw_X11_formula (Or.inl ⟨rfl, ml_X11_130⟩) im_X11_formula se_X11_formula (by decide) ga16 gs17 rfl (Nat.le_of_ble_eq_true rfl) en112 (s_X11_formula e110) ?_
          exact a_iret dX11_provenBy_343 rfl (hR _ _ h)
        · replace h := ite_f c101 h
          refine a_iconst (v := 0) dX11_provenBy_325 (by decide) ?_
          refine a_goto 343 dX11_provenBy_326 (by decide) ?_
          exact a_iret dX11_provenBy_343 rfl (hR _ _ h)
      replace h := ite_f c100 h
      by_cases c113 : (M12.2.2.1 r18 (x1.toNatClampNeg)) = 8
      · replace h := ite_t c113 h
        refine a_tableIn (off := 217) 344 dX11_provenBy_127 (by rw [c113]; decide) (by rw [c113]; decide) (by rw [c113]; rfl) (by decide) ?_
        refine a_aload_n dX11_provenBy_344 rfl rfl ?_
        refine a_iload dX11_provenBy_345 rfl ?_
        refine a_bipush (v := 11) dX11_provenBy_347 (by decide) ?_
        refine a_iload_n dX11_provenBy_349 rfl rfl ?_
        obtain ⟨v114, M115, e116, h⟩ := bnd2_t h
        obtain ⟨n117, en118, e116⟩ := cal_t e116
        refine e_callV (As := [.int v11, .int 11, .int (M.2.2.1 a0 43)]) (st := []) (a := a0) (ci := 11) false dX11_provenBy_350 mw_X11_isNot (Or.inl ⟨rfl, ml_X11_293⟩) im_X11_isNot se_X11_isNot (by decide) ga16 gs17 rfl (Nat.le_of_ble_eq_true rfl) en118 (s_X11_isNot e116) ?_
        refine a_if_eq 358 dX11_provenBy_353 (by decide) (fun c119 => ?_) (fun c119 => ?_)
        · replace h := ite_t c119 h
          refine a_aload_n dX11_provenBy_358 rfl rfl ?_
          obtain ⟨⟨ga120, gs121⟩, h⟩ := gd_t h
          obtain ⟨r122, e123, h⟩ := bnd_t h
          refine a_get (v := .ref r122) dX11_provenBy_359 fl_11_93 ga120 gs121 (gvR e123 rfl) ?_
          refine a_iload_n dX11_provenBy_362 rfl rfl ?_
          refine a_aload_n dX11_provenBy_363 rfl rfl ?_
          obtain ⟨r124, e125, h⟩ := bnd_t h
          refine a_get (v := .ref r124) dX11_provenBy_364 fl_11_17 ga120 gs121 (gvR e125 rfl) ?_
          refine a_iload dX11_provenBy_367 rfl ?_
          obtain ⟨⟨ga126, gn127, gs128, gi129⟩, h⟩ := gd_t h
          refine a_iaload dX11_provenBy_369 ga126 gs128 gi129 ?_
          obtain ⟨⟨ga130, gn131, gs132, gi133⟩, h⟩ := gd_t h
          refine a_iastore dX11_provenBy_370 ga130 gs132 gi133 ?_
          refine a_aload_n dX11_provenBy_371 rfl rfl ?_
          refine a_iload_n dX11_provenBy_372 rfl rfl ?_
          refine a_iconst (v := 1) dX11_provenBy_373 (by decide) ?_
          refine a_iadd dX11_provenBy_374 ?_
          obtain ⟨v134, M135, e136, h⟩ := bnd2_t h
          obtain ⟨n137, en138, e136⟩ := hc_X11_asks e136
          refine e_callV (As := [.int (x2 + 1)]) (st := []) (a := a0) (ci := 11) false dX11_provenBy_375 mw_X11_asks (Or.inl ⟨rfl, ml_X11_286⟩) im_X11_asks se_X11_asks (by decide) ga120 gs121 rfl (Nat.le_of_ble_eq_true rfl) en138 e136 ?_
          refine a_istore dX11_provenBy_378 (Nat.le_of_ble_eq_true rfl) (lv2 := [(8, .int v134), (5, .int (M12.2.2.1 a0 43)), (4, .int v11), (3, .int (M.2.2.1 a0 43)), (0, .ref a0), (1, .int x1), (2, .int x2)]) rfl ?_
          refine a_aload_n dX11_provenBy_380 rfl rfl ?_
          obtain ⟨⟨ga139, gs140⟩, h⟩ := gd_t h
          refine a_get (v := .int (M135.2.2.1 a0 43)) dX11_provenBy_381 fl_11_283 ga139 gs140 rfl ?_
          refine a_istore dX11_provenBy_384 (Nat.le_of_ble_eq_true rfl) (lv2 := [(9, .int (M135.2.2.1 a0 43)), (8, .int v134), (5, .int (M12.2.2.1 a0 43)), (4, .int v11), (3, .int (M.2.2.1 a0 43)), (0, .ref a0), (1, .int x1), (2, .int x2)]) rfl ?_
          refine a_aload_n dX11_provenBy_386 rfl rfl ?_
          obtain ⟨r141, e142, h⟩ := bnd_t h
          refine a_get (v := .ref r141) dX11_provenBy_387 fl_11_93 ga139 gs140 (gvR e142 rfl) ?_
          refine a_iload_n dX11_provenBy_390 rfl rfl ?_
          refine a_aload_n dX11_provenBy_391 rfl rfl ?_
          obtain ⟨r143, e144, h⟩ := bnd_t h
          refine a_get (v := .ref r143) dX11_provenBy_392 fl_11_20 ga139 gs140 (gvR e144 rfl) ?_
          refine a_iload dX11_provenBy_395 rfl ?_
          obtain ⟨⟨ga145, gn146, gs147, gi148⟩, h⟩ := gd_t h
          refine a_iaload dX11_provenBy_397 ga145 gs147 gi148 ?_
          obtain ⟨⟨ga149, gn150, gs151, gi152⟩, h⟩ := gd_t h
          refine a_iastore dX11_provenBy_398 ga149 gs151 gi152 ?_
          refine a_aload_n dX11_provenBy_399 rfl rfl ?_
          refine a_iload_n dX11_provenBy_400 rfl rfl ?_
          refine a_iconst (v := 1) dX11_provenBy_401 (by decide) ?_
          refine a_iadd dX11_provenBy_402 ?_
          obtain ⟨v153, M154, e155, h⟩ := bnd2_t h
          obtain ⟨n156, en157, e155⟩ := hc_X11_asks e155
          refine e_callV (As := [.int (x2 + 1)]) (st := []) (a := a0) (ci := 11) false dX11_provenBy_403 mw_X11_asks (Or.inl ⟨rfl, ml_X11_286⟩) im_X11_asks se_X11_asks (by decide) ga139 gs140 rfl (Nat.le_of_ble_eq_true rfl) en157 e155 ?_
          refine a_istore dX11_provenBy_406 (Nat.le_of_ble_eq_true rfl) (lv2 := [(10, .int v153), (9, .int (M135.2.2.1 a0 43)), (8, .int v134), (5, .int (M12.2.2.1 a0 43)), (4, .int v11), (3, .int (M.2.2.1 a0 43)), (0, .ref a0), (1, .int x1), (2, .int x2)]) rfl ?_
          refine a_aload_n dX11_provenBy_408 rfl rfl ?_
          obtain ⟨⟨ga158, gs159⟩, h⟩ := gd_t h
          refine a_get (v := .int (M154.2.2.1 a0 30)) dX11_provenBy_409 fl_11_163 ga158 gs159 rfl ?_
          refine a_if_ne 434 dX11_provenBy_412 (by decide) (fun c160 => ?_) (fun c160 => ?_)
          · replace h := ite_f c160 h
            refine a_iload dX11_provenBy_434 rfl ?_
            exact a_iret dX11_provenBy_436 rfl (hR _ _ h)
          · replace h := ite_t c160 h
            refine a_iload dX11_provenBy_415 rfl ?_
            refine a_iload dX11_provenBy_417 rfl ?_
            refine a_icmp_eq 434 dX11_provenBy_419 (by decide) (fun c161 => ?_) (fun c161 => ?_)
            · replace h := ite_t c161 h
              refine a_iload dX11_provenBy_434 rfl ?_
              exact a_iret dX11_provenBy_436 rfl (hR _ _ h)
            · replace h := ite_f c161 h
              refine a_aload_n dX11_provenBy_422 rfl rfl ?_
              refine a_iconst (v := 5) dX11_provenBy_423 (by decide) ?_
              refine a_aload_n dX11_provenBy_424 rfl rfl ?_
              obtain ⟨r162, e163, h⟩ := bnd_t h
              refine a_get (v := .ref r162) dX11_provenBy_425 fl_11_78 ga158 gs159 (gvR e163 rfl) ?_
              refine a_iload dX11_provenBy_428 rfl ?_
              obtain ⟨⟨ga164, gn165, gs166, gi167⟩, h⟩ := gd_t h
              refine a_iaload dX11_provenBy_430 ga164 gs166 gi167 ?_
              obtain ⟨_, M168, e169, h⟩ := bnd2_t h
              obtain ⟨n170, en171, e169⟩ := cal_t e169
              refine e_callV (As := [.int 5, .int (M154.2.2.1 r162 ((M135.2.2.1 a0 43).toNatClampNeg))]) (st := []) (a := a0) (ci := 11) false dX11_provenBy_431 mw_X11_fails (Or.inl ⟨rfl, ml_X11_209⟩) im_X11_fails se_X11_fails (by decide) ga158 gs159 rfl (Nat.le_of_ble_eq_true rfl) en171 (s_X11_fails e169) ?_
              refine a_iload dX11_provenBy_434 rfl ?_
              exact a_iret dX11_provenBy_436 rfl (hR _ _ h)
        · replace h := ite_f c119 h
          refine a_iconst (v := 0) dX11_provenBy_356 (by decide) ?_
          exact a_iret dX11_provenBy_357 rfl (hR _ _ h)
      replace h := ite_f c113 h
      refine a_tableOut 437 dX11_provenBy_127 (by have q0 := ne_toInt (z := 2) c24 rfl; have q1 := ne_toInt (z := 3) c71 rfl; have q2 := ne_toInt (z := 4) c85 rfl; have q3 := ne_toInt (z := 5) c86 rfl; have q4 := ne_toInt (z := 6) c87 rfl; have q5 := ne_toInt (z := 7) c100 rfl; have q6 := ne_toInt (z := 8) c113 rfl; omega) (by decide) ?_
      refine a_aload_n dX11_provenBy_437 rfl rfl ?_
      refine a_iload dX11_provenBy_438 rfl ?_
      refine a_bipush (v := 8) dX11_provenBy_440 (by decide) ?_
      refine a_iload_n dX11_provenBy_442 rfl rfl ?_
      obtain ⟨v172, M173, e174, h⟩ := bnd2_t h
      obtain ⟨n175, en176, e174⟩ := cal_t e174
      refine e_callV (As := [.int v11, .int 8, .int (M.2.2.1 a0 43)]) (st := []) (a := a0) (ci := 11) false dX11_provenBy_443 mw_X11_isNot (Or.inl ⟨rfl, ml_X11_293⟩) im_X11_isNot se_X11_isNot (by decide) ga16 gs17 rfl (Nat.le_of_ble_eq_true rfl) en176 (s_X11_isNot e174) ?_
      refine a_if_eq 451 dX11_provenBy_446 (by decide) (fun c177 => ?_) (fun c177 => ?_)
      · replace h := ite_t c177 h
        refine a_aload_n dX11_provenBy_451 rfl rfl ?_
        obtain ⟨⟨ga178, gs179⟩, h⟩ := gd_t h
        obtain ⟨r180, e181, h⟩ := bnd_t h
        refine a_get (v := .ref r180) dX11_provenBy_452 fl_11_62 ga178 gs179 (gvR e181 rfl) ?_
        refine a_iload_n dX11_provenBy_455 rfl rfl ?_
        obtain ⟨⟨ga182, gn183, gs184, gi185⟩, h⟩ := gd_t h
        refine a_iaload dX11_provenBy_456 ga182 gs184 gi185 ?_
        exact a_iret dX11_provenBy_457 rfl (hR _ _ h)
      · replace h := ite_f c177 h
        refine a_iconst (v := 0) dX11_provenBy_449 (by decide) ?_
        exact a_iret dX11_provenBy_450 rfl (hR _ _ h)
    · replace h := ite_t c10 h
      refine a_aload_n dX11_provenBy_61 rfl rfl ?_
      obtain ⟨r186, e187, h⟩ := bnd_t h
      refine a_get (v := .ref r186) dX11_provenBy_62 fl_11_93 ga1 gs2 (gvR e187 rfl) ?_
      refine a_iload_n dX11_provenBy_65 rfl rfl ?_
      refine a_aload_n dX11_provenBy_66 rfl rfl ?_
      obtain ⟨r188, e189, h⟩ := bnd_t h
      refine a_get (v := .ref r188) dX11_provenBy_67 fl_11_62 ga1 gs2 (gvR e189 rfl) ?_
      refine a_iload_n dX11_provenBy_70 rfl rfl ?_
      obtain ⟨⟨ga190, gn191, gs192, gi193⟩, h⟩ := gd_t h
      refine a_iaload dX11_provenBy_71 ga190 gs192 gi193 ?_
      obtain ⟨⟨ga194, gn195, gs196, gi197⟩, h⟩ := gd_t h
      refine a_iastore dX11_provenBy_72 ga194 gs196 gi197 ?_
      refine a_aload_n dX11_provenBy_73 rfl rfl ?_
      refine a_iload_n dX11_provenBy_74 rfl rfl ?_
      refine a_iconst (v := 1) dX11_provenBy_75 (by decide) ?_
      refine a_iadd dX11_provenBy_76 ?_
      obtain ⟨v198, M199, e200, h⟩ := bnd2_t h
      obtain ⟨n201, en202, e200⟩ := hc_X11_asks e200
      refine e_callV (As := [.int (x2 + 1)]) (st := []) (a := a0) (ci := 11) false dX11_provenBy_77 mw_X11_asks (Or.inl ⟨rfl, ml_X11_286⟩) im_X11_asks se_X11_asks (by decide) ga1 gs2 rfl (Nat.le_of_ble_eq_true rfl) en202 e200 ?_
      refine a_istore dX11_provenBy_80 (Nat.le_of_ble_eq_true rfl) (lv2 := [(4, .int v198), (3, .int (M.2.2.1 a0 43)), (0, .ref a0), (1, .int x1), (2, .int x2)]) rfl ?_
      refine a_aload_n dX11_provenBy_82 rfl rfl ?_
      obtain ⟨⟨ga203, gs204⟩, h⟩ := gd_t h
      refine a_get (v := .int (M199.2.2.1 a0 30)) dX11_provenBy_83 fl_11_163 ga203 gs204 rfl ?_
      refine a_if_eq 93 dX11_provenBy_86 (by decide) (fun c205 => ?_) (fun c205 => ?_)
      · replace h := ite_t c205 h
        refine a_aload_n dX11_provenBy_93 rfl rfl ?_
        refine a_bipush (v := 9) dX11_provenBy_94 (by decide) ?_
        refine a_aload_n dX11_provenBy_96 rfl rfl ?_
        obtain ⟨r206, e207, h⟩ := bnd_t h
        refine a_get (v := .ref r206) dX11_provenBy_97 fl_11_62 ga203 gs204 (gvR e207 rfl) ?_
        refine a_iload_n dX11_provenBy_100 rfl rfl ?_
        obtain ⟨⟨ga208, gn209, gs210, gi211⟩, h⟩ := gd_t h
        refine a_iaload dX11_provenBy_101 ga208 gs210 gi211 ?_
        refine a_iload dX11_provenBy_102 rfl ?_
        obtain ⟨v212, M213, e214, h⟩ := bnd2_t h
        obtain ⟨n215, en216, e214⟩ := cal_t e214
        refine e_callV (As := [.int 9, .int (M199.2.2.1 r206 (x1.toNatClampNeg)), .int v198]) (st := []) (a := a0) (ci := 11) false dX11_provenBy_104 mw_X11_formula (Or.inl ⟨rfl, ml_X11_130⟩) im_X11_formula se_X11_formula (by decide) ga203 gs204 rfl (Nat.le_of_ble_eq_true rfl) en216 (s_X11_formula e214) ?_
        exact a_iret dX11_provenBy_107 rfl (hR _ _ h)
      · replace h := ite_f c205 h
        refine a_iconst (v := 0) dX11_provenBy_89 (by decide) ?_
        refine a_goto 107 dX11_provenBy_90 (by decide) ?_
        exact a_iret dX11_provenBy_107 rfl (hR _ _ h)
  · replace h := ite_t c9 h
    refine a_aload_n dX11_provenBy_14 rfl rfl ?_
    obtain ⟨r217, e218, h⟩ := bnd_t h
    refine a_get (v := .ref r217) dX11_provenBy_15 fl_11_62 ga1 gs2 (gvR e218 rfl) ?_
    refine a_iload_n dX11_provenBy_18 rfl rfl ?_
    obtain ⟨⟨ga219, gn220, gs221, gi222⟩, h⟩ := gd_t h
    refine a_iaload dX11_provenBy_19 ga219 gs221 gi222 ?_
    refine a_if_ge 39 dX11_provenBy_20 (by decide) (fun c223 => ?_) (fun c223 => ?_)
    · replace h := ite_t c223 h
      refine a_aload_n dX11_provenBy_39 rfl rfl ?_
      obtain ⟨r224, e225, h⟩ := bnd_t h
      refine a_get (v := .ref r224) dX11_provenBy_40 fl_11_93 ga1 gs2 (gvR e225 rfl) ?_
      refine a_aload_n dX11_provenBy_43 rfl rfl ?_
      refine a_get (v := .ref r217) dX11_provenBy_44 fl_11_62 ga1 gs2 (gvR e218 rfl) ?_
      refine a_iload_n dX11_provenBy_47 rfl rfl ?_
      refine a_iaload dX11_provenBy_48 ga219 gs221 gi222 ?_
      obtain ⟨⟨ga226, gn227, gs228, gi229⟩, h⟩ := gd_t h
      refine a_iaload dX11_provenBy_49 ga226 gs228 gi229 ?_
      exact a_iret dX11_provenBy_50 rfl (hR _ _ h)
    · replace h := ite_f c223 h
      refine a_aload_n dX11_provenBy_23 rfl rfl ?_
      obtain ⟨r230, e231, h⟩ := bnd_t h
      refine a_get (v := .ref r230) dX11_provenBy_24 fl_11_38 ga1 gs2 (gvR e231 rfl) ?_
      refine a_iconst (v := -1) dX11_provenBy_27 (by decide) ?_
      refine a_aload_n dX11_provenBy_28 rfl rfl ?_
      refine a_get (v := .ref r217) dX11_provenBy_29 fl_11_62 ga1 gs2 (gvR e218 rfl) ?_
      refine a_iload_n dX11_provenBy_32 rfl rfl ?_
      refine a_iaload dX11_provenBy_33 ga219 gs221 gi222 ?_
      refine a_isub dX11_provenBy_34 ?_
      obtain ⟨⟨ga232, gn233, gs234, gi235⟩, h⟩ := gd_t h
      refine a_iaload dX11_provenBy_35 ga232 gs234 gi235 ?_
      refine a_goto 50 dX11_provenBy_36 (by decide) ?_
      exact a_iret dX11_provenBy_50 rfl (hR _ _ h)
set_option maxHeartbeats 4000000 in
set_option maxRecDepth 100000 in
noncomputable def T_X11_provenBy_250.{u} {α : Sort u} (J : Nat → List Value → Mem → α) (R : Int32 → Mem → α) (N : α) (cl : Nat → List Value → Mem → Option (Int32 × Mem)) (n : Nat) (a0 : Nat) (x1 : Int32) (x3 : Int32) (x4 : Int32) (M : Mem) : α := gd (fO M a0 11) N (bnd2 (cal n (fun n => f_X11_isNot n a0 x4 10 x3 M)) N (fun v3 M4 => if v3 = 0 then gd (fO M4 a0 11) N (bnd (M4.2.2.2.2 a0 20) N (fun r11 => gd (fA M4 r11 1 x1) N (if (M4.2.2.1 r11 (x1.toNatClampNeg)) = 4 then bnd (M4.2.2.2.2 a0 2) N (fun r24 => gd (fA M4 r24 1 x4) N (R (M4.2.2.1 r24 (x4.toNatClampNeg)) M4)) else bnd (M4.2.2.2.2 a0 3) N (fun r18 => gd (fA M4 r18 1 x4) N (R (M4.2.2.1 r18 (x4.toNatClampNeg)) M4))))) else R 0 M4))
set_option maxHeartbeats 4000000 in
set_option maxRecDepth 100000 in
theorem n_X11_provenBy_250.{u, v} {α : Sort u} {β : Sort v} (h : α → β) (J : Nat → List Value → Mem → α) (R : Int32 → Mem → α) (N : α) (cl : Nat → List Value → Mem → Option (Int32 × Mem)) (n : Nat) (a0 : Nat) (x1 : Int32) (x3 : Int32) (x4 : Int32) (M : Mem) : h (T_X11_provenBy_250 J R N cl n a0 x1 x3 x4 M) = T_X11_provenBy_250 (fun c l M => h (J c l M)) (fun v M => h (R v M)) (h N) cl n a0 x1 x3 x4 M := by
  simp only [T_X11_provenBy_250, nat_ite h, nat_gd h, nat_bnd h, nat_bnd2 h]
set_option maxHeartbeats 4000000 in
set_option maxRecDepth 100000 in
theorem w_X11_provenBy_250 {X : Nat × (Nat → Int32)} {al : Bool} {n : Nat} {Q : Option Value → Mem → Prop} {J : Nat → List Value → Mem → Prop} (hJ : ∀ c l M, J c l M → PW_X11_provenBy X al n Q c l M) {R : Int32 → Mem → Prop} (hR : ∀ v M, R v M → Q (some (.int v)) M) {cl : Nat → List Value → Mem → Option (Int32 × Mem)} (hc_X11_asks : ∀ {a0 : Nat} {x1 : Int32} {M : Mem} {v : Int32} {M1 : Mem}, cl 0 [.ref a0, .int x1] M = some (v, M1) → ∃ k, n = k + 1 ∧ AE yX11_asks cX11_asks 4 (some .int) al k X [.ref a0, .int x1] M (some (.int v)) M1) (hc_X11_provenBy : ∀ {a0 : Nat} {x1 : Int32} {x2 : Int32} {M : Mem} {v : Int32} {M1 : Mem}, cl 1 [.ref a0, .int x1, .int x2] M = some (v, M1) → ∃ k, n = k + 1 ∧ AE yX11_provenBy cX11_provenBy 11 (some .int) al k X [.ref a0, .int x1, .int x2] M (some (.int v)) M1) {a0 : Nat} {x1 : Int32} {x3 : Int32} {x4 : Int32} {M : Mem} (h : T_X11_provenBy_250 J R False cl n a0 x1 x3 x4 M) : AW X (RX11, cX11_provenBy, 11, (some .int), false, al, n) 0 0 250 [(0, .ref a0), (1, .int x1), (3, .int x3), (4, .int x4)] [] M Q := by
  unfold T_X11_provenBy_250 at h
  refine a_aload_n dX11_provenBy_250 rfl rfl ?_
  refine a_iload dX11_provenBy_251 rfl ?_
  refine a_bipush (v := 10) dX11_provenBy_253 (by decide) ?_
  refine a_iload_n dX11_provenBy_255 rfl rfl ?_
  obtain ⟨⟨ga1, gs2⟩, h⟩ := gd_t h
  obtain ⟨v3, M4, e5, h⟩ := bnd2_t h
  obtain ⟨n6, en7, e5⟩ := cal_t e5
  refine e_callV (As := [.int x4, .int 10, .int x3]) (st := []) (a := a0) (ci := 11) false dX11_provenBy_256 mw_X11_isNot (Or.inl ⟨rfl, ml_X11_293⟩) im_X11_isNot se_X11_isNot (by decide) ga1 gs2 rfl (Nat.le_of_ble_eq_true rfl) en7 (s_X11_isNot e5) ?_
  refine a_if_eq 264 dX11_provenBy_259 (by decide) (fun c8 => ?_) (fun c8 => ?_)
  · replace h := ite_t c8 h
    refine a_aload_n dX11_provenBy_264 rfl rfl ?_
    obtain ⟨⟨ga9, gs10⟩, h⟩ := gd_t h
    obtain ⟨r11, e12, h⟩ := bnd_t h
    refine a_get (v := .ref r11) dX11_provenBy_265 fl_11_59 ga9 gs10 (gvR e12 rfl) ?_
    refine a_iload_n dX11_provenBy_268 rfl rfl ?_
    obtain ⟨⟨ga13, gn14, gs15, gi16⟩, h⟩ := gd_t h
    refine a_iaload dX11_provenBy_269 ga13 gs15 gi16 ?_
    refine a_iconst (v := 4) dX11_provenBy_270 (by decide) ?_
    refine a_icmp_ne 284 dX11_provenBy_271 (by decide) (fun c17 => ?_) (fun c17 => ?_)
    · replace h := ite_f c17 h
      refine a_aload_n dX11_provenBy_284 rfl rfl ?_
      obtain ⟨r18, e19, h⟩ := bnd_t h
      refine a_get (v := .ref r18) dX11_provenBy_285 fl_11_20 ga9 gs10 (gvR e19 rfl) ?_
      refine a_iload dX11_provenBy_288 rfl ?_
      obtain ⟨⟨ga20, gn21, gs22, gi23⟩, h⟩ := gd_t h
      refine a_iaload dX11_provenBy_290 ga20 gs22 gi23 ?_
      exact a_iret dX11_provenBy_291 rfl (hR _ _ h)
    · replace h := ite_t c17 h
      refine a_aload_n dX11_provenBy_274 rfl rfl ?_
      obtain ⟨r24, e25, h⟩ := bnd_t h
      refine a_get (v := .ref r24) dX11_provenBy_275 fl_11_17 ga9 gs10 (gvR e25 rfl) ?_
      refine a_iload dX11_provenBy_278 rfl ?_
      obtain ⟨⟨ga26, gn27, gs28, gi29⟩, h⟩ := gd_t h
      refine a_iaload dX11_provenBy_280 ga26 gs28 gi29 ?_
      refine a_goto 291 dX11_provenBy_281 (by decide) ?_
      exact a_iret dX11_provenBy_291 rfl (hR _ _ h)
  · replace h := ite_f c8 h
    refine a_iconst (v := 0) dX11_provenBy_262 (by decide) ?_
    exact a_iret dX11_provenBy_263 rfl (hR _ _ h)
set_option maxHeartbeats 4000000 in
set_option maxRecDepth 100000 in
noncomputable def st_X11_provenBy (cl : Nat → List Value → Mem → Option (Int32 × Mem)) (n : Nat) (s : Sg) : Option (Sg ⊕ (Int32 × Mem)) := if s.1 = 0 then vR s.2.1 none (fun a0 t => vI t none (fun x1 t => vI t none (fun x2 t => vE t none (T_X11_provenBy_0 (fun c l M => some (.inl (c, l, M))) (fun v M => some (.inr (v, M))) none cl n a0 x1 x2 s.2.2)))) else if s.1 = 250 then vR s.2.1 none (fun a0 t => vI t none (fun x1 t => vI t none (fun x3 t => vI t none (fun x4 t => vE t none (T_X11_provenBy_250 (fun c l M => some (.inl (c, l, M))) (fun v M => some (.inr (v, M))) none cl n a0 x1 x3 x4 s.2.2))))) else none
noncomputable abbrev g_X11_provenBy_0 (cl : Nat → List Value → Mem → Option (Int32 × Mem)) (n : Nat) (a0 : Nat) (x1 : Int32) (x2 : Int32) (M : Mem) : Option (Int32 × Mem) := lp (st_X11_provenBy cl n) (0, [.ref a0, .int x1, .int x2], M)
set_option maxHeartbeats 4000000 in
set_option maxRecDepth 100000 in
theorem ge_X11_provenBy_0 (cl : Nat → List Value → Mem → Option (Int32 × Mem)) (n : Nat) (a0 : Nat) (x1 : Int32) (x2 : Int32) (M : Mem) : g_X11_provenBy_0 cl n a0 x1 x2 M = T_X11_provenBy_0 (fun c l M => lp (st_X11_provenBy cl n) (c, l, M)) (fun v M => some (v, M)) none cl n a0 x1 x2 M := (lp_eq _ _).trans (n_X11_provenBy_0 (lpK (st_X11_provenBy cl n)) (fun c l M => some (.inl (c, l, M))) (fun v M => some (.inr (v, M))) none cl n a0 x1 x2 M)
noncomputable abbrev g_X11_provenBy_250 (cl : Nat → List Value → Mem → Option (Int32 × Mem)) (n : Nat) (a0 : Nat) (x1 : Int32) (x3 : Int32) (x4 : Int32) (M : Mem) : Option (Int32 × Mem) := lp (st_X11_provenBy cl n) (250, [.ref a0, .int x1, .int x3, .int x4], M)
set_option maxHeartbeats 4000000 in
set_option maxRecDepth 100000 in
theorem ge_X11_provenBy_250 (cl : Nat → List Value → Mem → Option (Int32 × Mem)) (n : Nat) (a0 : Nat) (x1 : Int32) (x3 : Int32) (x4 : Int32) (M : Mem) : g_X11_provenBy_250 cl n a0 x1 x3 x4 M = T_X11_provenBy_250 (fun c l M => lp (st_X11_provenBy cl n) (c, l, M)) (fun v M => some (v, M)) none cl n a0 x1 x3 x4 M := (lp_eq _ _).trans (n_X11_provenBy_250 (lpK (st_X11_provenBy cl n)) (fun c l M => some (.inl (c, l, M))) (fun v M => some (.inr (v, M))) none cl n a0 x1 x3 x4 M)
noncomputable def b_X11_provenBy (cl : Nat → List Value → Mem → Option (Int32 × Mem)) (n : Nat) (a0 : Nat) (x1 : Int32) (x2 : Int32) (M : Mem) : Option (Int32 × Mem) := g_X11_provenBy_0 cl n a0 x1 x2 M
set_option maxHeartbeats 4000000 in
set_option maxRecDepth 100000 in
theorem sb_X11_provenBy {X : Nat × (Nat → Int32)} {al : Bool} {n : Nat} {cl : Nat → List Value → Mem → Option (Int32 × Mem)} (hc_X11_asks : ∀ {a0 : Nat} {x1 : Int32} {M : Mem} {v : Int32} {M1 : Mem}, cl 0 [.ref a0, .int x1] M = some (v, M1) → ∃ k, n = k + 1 ∧ AE yX11_asks cX11_asks 4 (some .int) al k X [.ref a0, .int x1] M (some (.int v)) M1) (hc_X11_provenBy : ∀ {a0 : Nat} {x1 : Int32} {x2 : Int32} {M : Mem} {v : Int32} {M1 : Mem}, cl 1 [.ref a0, .int x1, .int x2] M = some (v, M1) → ∃ k, n = k + 1 ∧ AE yX11_provenBy cX11_provenBy 11 (some .int) al k X [.ref a0, .int x1, .int x2] M (some (.int v)) M1) {a0 : Nat} {x1 : Int32} {x2 : Int32} {M : Mem} {v : Int32} {M1 : Mem} (h : b_X11_provenBy cl n a0 x1 x2 M = some (v, M1)) : AE yX11_provenBy cX11_provenBy 11 (some .int) al n X [.ref a0, .int x1, .int x2] M (some (.int v)) M1 := by
  refine AM.of false (by decide +kernel) (by intro h; cases h) (Nat.le_of_ble_eq_true rfl) ?_
  refine lp_snd (P := fun s r => PW_X11_provenBy X al n (fun v M2 => v = (some (.int r.1)) ∧ M2 = r.2) s.1 s.2.1 s.2.2) ?_ h
  clear h
  rintro ⟨c, l, M⟩ r h
  unfold st_X11_provenBy at h
  rcases ite_p h with ⟨e, h⟩ | ⟨e, h⟩
  · replace e : c = 0 := e
    subst e
    obtain ⟨a0, tt0, e, h⟩ := vR_p id h
    replace e : l = _ := e
    subst e
    obtain ⟨x1, tt1, e, h⟩ := vI_p id h
    replace e : tt0 = _ := e
    subst e
    obtain ⟨x2, tt2, e, h⟩ := vI_p id h
    replace e : tt1 = _ := e
    subst e
    obtain ⟨e, h⟩ := vE_p id h
    replace e : tt2 = [] := e
    subst e
    exact w_X11_provenBy_0 (J := fun c l M => PW_X11_provenBy X al n (fun v M2 => v = (some (.int r.1)) ∧ M2 = r.2) c l M) (R := fun v M => (v, M) = r) (fun _ _ _ h => h) (fun v M h => by cases h; exact ⟨rfl, rfl⟩) hc_X11_asks hc_X11_provenBy ((n_X11_provenBy_0 (lpP (fun (s : Sg) (r : Int32 × Mem) => PW_X11_provenBy X al n (fun v M2 => v = (some (.int r.1)) ∧ M2 = r.2) s.1 s.2.1 s.2.2) r) (fun c l M => some (.inl (c, l, M))) (fun v M => some (.inr (v, M))) none cl n a0 x1 x2 M).mp h)
  rcases ite_p h with ⟨e, h⟩ | ⟨e, h⟩
  · replace e : c = 250 := e
    subst e
    obtain ⟨a0, tt0, e, h⟩ := vR_p id h
    replace e : l = _ := e
    subst e
    obtain ⟨x1, tt1, e, h⟩ := vI_p id h
    replace e : tt0 = _ := e
    subst e
    obtain ⟨x3, tt2, e, h⟩ := vI_p id h
    replace e : tt1 = _ := e
    subst e
    obtain ⟨x4, tt3, e, h⟩ := vI_p id h
    replace e : tt2 = _ := e
    subst e
    obtain ⟨e, h⟩ := vE_p id h
    replace e : tt3 = [] := e
    subst e
    exact w_X11_provenBy_250 (J := fun c l M => PW_X11_provenBy X al n (fun v M2 => v = (some (.int r.1)) ∧ M2 = r.2) c l M) (R := fun v M => (v, M) = r) (fun _ _ _ h => h) (fun v M h => by cases h; exact ⟨rfl, rfl⟩) hc_X11_asks hc_X11_provenBy ((n_X11_provenBy_250 (lpP (fun (s : Sg) (r : Int32 × Mem) => PW_X11_provenBy X al n (fun v M2 => v = (some (.int r.1)) ∧ M2 = r.2) s.1 s.2.1 s.2.2) r) (fun c l M => some (.inl (c, l, M))) (fun v M => some (.inr (v, M))) none cl n a0 x1 x3 x4 M).mp h)
  · exact h.elim

noncomputable def F_X11_asks (cl : Nat → List Value → Mem → Option (Int32 × Mem)) (n k : Nat) (l : List Value) (M : Mem) : Option (Int32 × Mem) := if k = 0 then vR l none (fun a0 t => vI t none (fun x1 t => vE t none (b_X11_asks cl n a0 x1 M))) else if k = 1 then vR l none (fun a0 t => vI t none (fun x1 t => vI t none (fun x2 t => vE t none (b_X11_provenBy cl n a0 x1 x2 M)))) else none
noncomputable def r_X11_asks : Nat → Nat → List Value → Mem → Option (Int32 × Mem)
  | 0 => F_X11_asks (fun _ _ _ => none) 0
  | n + 1 => F_X11_asks (r_X11_asks n) (n + 1)
noncomputable abbrev f_X11_asks (n : Nat) (a0 : Nat) (x1 : Int32) (M : Mem) : Option (Int32 × Mem) := r_X11_asks n 0 [.ref a0, .int x1] M
noncomputable abbrev f_X11_provenBy (n : Nat) (a0 : Nat) (x1 : Int32) (x2 : Int32) (M : Mem) : Option (Int32 × Mem) := r_X11_asks n 1 [.ref a0, .int x1, .int x2] M
set_option maxHeartbeats 4000000 in
set_option maxRecDepth 100000 in
theorem sr_X11_asks {X : Nat × (Nat → Int32)} {al : Bool} : ∀ n : Nat, (∀ {a0 : Nat} {x1 : Int32} {M : Mem} {v : Int32} {M1 : Mem}, f_X11_asks n a0 x1 M = some (v, M1) → AE yX11_asks cX11_asks 4 (some .int) al n X [.ref a0, .int x1] M (some (.int v)) M1) ∧ (∀ {a0 : Nat} {x1 : Int32} {x2 : Int32} {M : Mem} {v : Int32} {M1 : Mem}, f_X11_provenBy n a0 x1 x2 M = some (v, M1) → AE yX11_provenBy cX11_provenBy 11 (some .int) al n X [.ref a0, .int x1, .int x2] M (some (.int v)) M1) := by
  intro n
  induction n with
  | zero => exact ⟨(fun h => sb_X11_asks (cl := fun _ _ _ => none) (fun h => by cases h) (fun h => by cases h) h), (fun h => sb_X11_provenBy (cl := fun _ _ _ => none) (fun h => by cases h) (fun h => by cases h) h)⟩
  | succ n ih => exact ⟨(fun h => sb_X11_asks (cl := r_X11_asks n) (fun h => ⟨n, rfl, ih.1 h⟩) (fun h => ⟨n, rfl, ih.2 h⟩) h), (fun h => sb_X11_provenBy (cl := r_X11_asks n) (fun h => ⟨n, rfl, ih.1 h⟩) (fun h => ⟨n, rfl, ih.2 h⟩) h)⟩
theorem s_X11_asks {X : Nat × (Nat → Int32)} {al : Bool} {n : Nat} {a0 : Nat} {x1 : Int32} {M : Mem} {v : Int32} {M1 : Mem} (h : f_X11_asks n a0 x1 M = some (v, M1)) : AE yX11_asks cX11_asks 4 (some .int) al n X [.ref a0, .int x1] M (some (.int v)) M1 := (sr_X11_asks n).1 h
theorem s_X11_provenBy {X : Nat × (Nat → Int32)} {al : Bool} {n : Nat} {a0 : Nat} {x1 : Int32} {x2 : Int32} {M : Mem} {v : Int32} {M1 : Mem} (h : f_X11_provenBy n a0 x1 x2 M = some (v, M1)) : AE yX11_provenBy cX11_provenBy 11 (some .int) al n X [.ref a0, .int x1, .int x2] M (some (.int v)) M1 := (sr_X11_asks n).2 h
