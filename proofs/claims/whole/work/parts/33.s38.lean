/-! METHODS AS FUNCTIONS, written by wip/gen/shallow.py -/
def ix_X0_decide (c : Nat) : List Nat := if c = 0 then [0, 1, 2] else if c = 11 then [0, 1, 2, 3] else if c = 36 then [0, 1, 2, 3, 5] else []
def PW_X0_decide (X : Nat × (Nat → Int32)) (al : Bool) (n : Nat) (Q : Option Value → Mem → Prop) (c : Nat) (l : List Value) (M : Mem) : Prop := AW X (RX0, cX0_decide, 6, (some .boolean), false, al, n) 0 0 c (List.zip (ix_X0_decide c) l) (l.drop (ix_X0_decide c).length) M Q
set_option maxHeartbeats 4000000 in
set_option maxRecDepth 100000 in
noncomputable def T_X0_decide_0.{u} {α : Sort u} (J : Nat → List Value → Mem → α) (R : Int32 → Mem → α) (N : α) (n : Nat) (a0 : Nat) (a1 : Nat) (x2 : Int32) (M : Mem) : α := gd (fO M a0 0) N (bnd2 (cal n (fun n => f_X0_takeParts n a0 M)) N (fun _ M3 => gd (fO M3 a0 0) N (J 11 [.ref a0, .ref a1, .int x2, .int 0] (wI M3 a0 6 0))))
set_option maxHeartbeats 4000000 in
set_option maxRecDepth 100000 in
theorem n_X0_decide_0.{u, v} {α : Sort u} {β : Sort v} (h : α → β) (J : Nat → List Value → Mem → α) (R : Int32 → Mem → α) (N : α) (n : Nat) (a0 : Nat) (a1 : Nat) (x2 : Int32) (M : Mem) : h (T_X0_decide_0 J R N n a0 a1 x2 M) = T_X0_decide_0 (fun c l M => h (J c l M)) (fun v M => h (R v M)) (h N) n a0 a1 x2 M := by
  simp only [T_X0_decide_0, nat_ite h, nat_gd h, nat_bnd h, nat_bnd2 h]
set_option maxHeartbeats 4000000 in
set_option maxRecDepth 100000 in
theorem w_X0_decide_0 {X : Nat × (Nat → Int32)} {al : Bool} {n : Nat} {Q : Option Value → Mem → Prop} {J : Nat → List Value → Mem → Prop} (hJ : ∀ c l M, J c l M → PW_X0_decide X al n Q c l M) {R : Int32 → Mem → Prop} (hR : ∀ v M, R v M → Q (some (.int v)) M) {a0 : Nat} {a1 : Nat} {x2 : Int32} {M : Mem} (h : T_X0_decide_0 J R False n a0 a1 x2 M) : AW X (RX0, cX0_decide, 6, (some .boolean), false, al, n) 0 0 0 [(0, .ref a0), (1, .ref a1), (2, .int x2)] [] M Q := by
  unfold T_X0_decide_0 at h
  refine a_aload_n dX0_decide_0 rfl rfl ?_
  obtain ⟨⟨ga1, gs2⟩, h⟩ := gd_t h
  obtain ⟨_, M3, e4, h⟩ := bnd2_t h
  obtain ⟨n5, en6, e4⟩ := cal_t e4
  refine e_callV (As := []) (st := []) (a := a0) (ci := 0) false dX0_decide_1 mw_X0_takeParts (Or.inl ⟨rfl, ml_X0_32⟩) im_X0_takeParts se_X0_takeParts (by decide) ga1 gs2 rfl (Nat.le_of_ble_eq_true rfl) en6 (s_X0_takeParts e4) ?_
  refine a_aload_n dX0_decide_4 rfl rfl ?_
  refine a_iconst (v := 0) dX0_decide_5 (by decide) ?_
  obtain ⟨⟨ga7, gs8⟩, h⟩ := gd_t h
  refine a_putI dX0_decide_6 (Or.inl ⟨fl_0_35, Or.inl rfl⟩) rfl ga7 gs8 rfl rfl ?_
  refine a_iconst (v := 0) dX0_decide_9 (by decide) ?_
  refine a_istore_n dX0_decide_10 rfl (Nat.le_of_ble_eq_true rfl) (lv2 := [(3, .int 0), (0, .ref a0), (1, .ref a1), (2, .int x2)]) rfl ?_
  exact a_lv (lv2 := [(0, .ref a0), (1, .ref a1), (2, .int x2), (3, .int 0)]) (fa_cons rfl (fa_cons rfl (fa_cons rfl (fa_cons rfl fa_nil)))) (hJ _ _ _ h)
set_option maxHeartbeats 4000000 in
set_option maxRecDepth 100000 in
noncomputable def T_X0_decide_11.{u} {α : Sort u} (J : Nat → List Value → Mem → α) (R : Int32 → Mem → α) (N : α) (n : Nat) (a0 : Nat) (a1 : Nat) (x2 : Int32) (x3 : Int32) (M : Mem) : α := if 8192 ≤ x3 then J 36 [.ref a0, .ref a1, .int x2, .long 0, .int 0] M else gd (fO M a0 0) N (bnd (M.2.2.2.2 a0 4) N (fun r4 => gd (fA M r4 2 x3) N (J 11 [.ref a0, .ref a1, .int x2, .int (x3 + 1)] (wJ M r4 (x3.toNatClampNeg) 0))))
set_option maxHeartbeats 4000000 in
set_option maxRecDepth 100000 in
theorem n_X0_decide_11.{u, v} {α : Sort u} {β : Sort v} (h : α → β) (J : Nat → List Value → Mem → α) (R : Int32 → Mem → α) (N : α) (n : Nat) (a0 : Nat) (a1 : Nat) (x2 : Int32) (x3 : Int32) (M : Mem) : h (T_X0_decide_11 J R N n a0 a1 x2 x3 M) = T_X0_decide_11 (fun c l M => h (J c l M)) (fun v M => h (R v M)) (h N) n a0 a1 x2 x3 M := by
  simp only [T_X0_decide_11, nat_ite h, nat_gd h, nat_bnd h, nat_bnd2 h]
set_option maxHeartbeats 4000000 in
set_option maxRecDepth 100000 in
theorem w_X0_decide_11 {X : Nat × (Nat → Int32)} {al : Bool} {n : Nat} {Q : Option Value → Mem → Prop} {J : Nat → List Value → Mem → Prop} (hJ : ∀ c l M, J c l M → PW_X0_decide X al n Q c l M) {R : Int32 → Mem → Prop} (hR : ∀ v M, R v M → Q (some (.int v)) M) {a0 : Nat} {a1 : Nat} {x2 : Int32} {x3 : Int32} {M : Mem} (h : T_X0_decide_11 J R False n a0 a1 x2 x3 M) : AW X (RX0, cX0_decide, 6, (some .boolean), false, al, n) 0 0 11 [(0, .ref a0), (1, .ref a1), (2, .int x2), (3, .int x3)] [] M Q := by
  unfold T_X0_decide_11 at h
  refine a_iload_n dX0_decide_11 rfl rfl ?_
  refine a_sipush (v := 8192) dX0_decide_12 (by decide) ?_
  refine a_icmp_ge 31 dX0_decide_15 (by decide) (fun c1 => ?_) (fun c1 => ?_)
  · replace h := ite_t c1 h
    refine a_lconst (v := 0) dX0_decide_31 (by decide) ?_
    refine a_lstore_n dX0_decide_32 rfl (Nat.le_of_ble_eq_true rfl) (lv2 := [(3, .long 0), (0, .ref a0), (1, .ref a1), (2, .int x2)]) rfl ?_
    refine a_iconst (v := 0) dX0_decide_33 (by decide) ?_
    refine a_istore dX0_decide_34 (Nat.le_of_ble_eq_true rfl) (lv2 := [(5, .int 0), (3, .long 0), (0, .ref a0), (1, .ref a1), (2, .int x2)]) rfl ?_
    exact a_lv (lv2 := [(0, .ref a0), (1, .ref a1), (2, .int x2), (3, .long 0), (5, .int 0)]) (fa_cons rfl (fa_cons rfl (fa_cons rfl (fa_cons rfl (fa_cons rfl fa_nil))))) (hJ _ _ _ h)
  · replace h := ite_f c1 h
    refine a_aload_n dX0_decide_18 rfl rfl ?_
    obtain ⟨⟨ga2, gs3⟩, h⟩ := gd_t h
    obtain ⟨r4, e5, h⟩ := bnd_t h
    refine a_get (v := .ref r4) dX0_decide_19 fl_0_22 ga2 gs3 (gvR e5 rfl) ?_
    refine a_iload_n dX0_decide_22 rfl rfl ?_
    refine a_lconst (v := 0) dX0_decide_23 (by decide) ?_
    obtain ⟨⟨ga6, gn7, gs8, gi9⟩, h⟩ := gd_t h
    refine a_lastore dX0_decide_24 ga6 gs8 gi9 ?_
    refine a_iinc (v := (x3 + 1)) dX0_decide_25 rfl (by first | rfl | decide) (Nat.le_of_ble_eq_true rfl) (lv2 := [(3, .int (x3 + 1)), (0, .ref a0), (1, .ref a1), (2, .int x2)]) rfl ?_
    refine a_goto 11 dX0_decide_28 (by decide) ?_
    exact a_lv (lv2 := [(0, .ref a0), (1, .ref a1), (2, .int x2), (3, .int (x3 + 1))]) (fa_cons rfl (fa_cons rfl (fa_cons rfl (fa_cons rfl fa_nil)))) (hJ _ _ _ h)
set_option maxHeartbeats 4000000 in
set_option maxRecDepth 100000 in
noncomputable def T_X0_decide_36.{u} {α : Sort u} (J : Nat → List Value → Mem → α) (R : Int32 → Mem → α) (N : α) (n : Nat) (a0 : Nat) (a1 : Nat) (x2 : Int32) (j3 : Int64) (x5 : Int32) (M : Mem) : α := gd (fO M a1 2) N (if (M.2.2.1 a1 3) ≤ x5 then gd (fO M a0 0) N (bnd (M.2.2.2.2 a0 0) N (fun r6 => gd (fO M r6 5) N (bnd2 (cal n (fun n => f_X5_spotOf n r6 x2 M)) N (fun v10 M11 => bnd2 (cal n (fun n => f_X0_bit n v10 M11)) N (fun v15 M16 => gd (fO M16 a0 0) N (bnd2 (cal n (fun n => f_X0_findAsked n a0 j3 (wJ M16 a0 8 v15))) N (fun v22 M23 => gd (fO M23 a0 0) N (bnd2 (cal n (fun n => f_X0_close n a0 j3 0 (wJ M23 a0 10 v22))) N (fun v29 M30 => gd (fO M30 a0 0) N (if (lg_cmp (v29 &&& (M30.2.2.2.1 a0 8)) 0) = 0 then R 0 M30 else R 1 M30)))))))))) else gd (fO M a0 0) N (bnd (M.2.2.2.2 a0 0) N (fun r39 => bnd2 (cal n (fun n => f_X2_formulaOf n a1 x5 M)) N (fun v41 M42 => gd (fO M42 r39 5) N (bnd2 (cal n (fun n => f_X5_spotOf n r39 v41 M42)) N (fun v48 M49 => bnd2 (cal n (fun n => f_X0_bit n v48 M49)) N (fun v53 M54 => J 36 [.ref a0, .ref a1, .int x2, .long (j3 ||| v53), .int (x5 + 1)] M54)))))))
set_option maxHeartbeats 4000000 in
set_option maxRecDepth 100000 in
theorem n_X0_decide_36.{u, v} {α : Sort u} {β : Sort v} (h : α → β) (J : Nat → List Value → Mem → α) (R : Int32 → Mem → α) (N : α) (n : Nat) (a0 : Nat) (a1 : Nat) (x2 : Int32) (j3 : Int64) (x5 : Int32) (M : Mem) : h (T_X0_decide_36 J R N n a0 a1 x2 j3 x5 M) = T_X0_decide_36 (fun c l M => h (J c l M)) (fun v M => h (R v M)) (h N) n a0 a1 x2 j3 x5 M := by
  simp only [T_X0_decide_36, nat_ite h, nat_gd h, nat_bnd h, nat_bnd2 h]
set_option maxHeartbeats 4000000 in
set_option maxRecDepth 100000 in
theorem w_X0_decide_36 {X : Nat × (Nat → Int32)} {al : Bool} {n : Nat} {Q : Option Value → Mem → Prop} {J : Nat → List Value → Mem → Prop} (hJ : ∀ c l M, J c l M → PW_X0_decide X al n Q c l M) {R : Int32 → Mem → Prop} (hR : ∀ v M, R v M → Q (some (.int v)) M) {a0 : Nat} {a1 : Nat} {x2 : Int32} {j3 : Int64} {x5 : Int32} {M : Mem} (h : T_X0_decide_36 J R False n a0 a1 x2 j3 x5 M) : AW X (RX0, cX0_decide, 6, (some .boolean), false, al, n) 0 0 36 [(0, .ref a0), (1, .ref a1), (2, .int x2), (3, .long j3), (5, .int x5)] [] M Q := by
  unfold T_X0_decide_36 at h
  refine a_iload dX0_decide_36 rfl ?_
  refine a_aload_n dX0_decide_38 rfl rfl ?_
  obtain ⟨⟨ga1, gs2⟩, h⟩ := gd_t h
  refine a_getN (v := .int (M.2.2.1 a1 3)) dX0_decide_39 fn_0_39 ga1 gs2 rfl ?_
  refine a_icmp_ge 70 dX0_decide_42 (by decide) (fun c3 => ?_) (fun c3 => ?_)
  · replace h := ite_t c3 h
    refine a_aload_n dX0_decide_70 rfl rfl ?_
    refine a_aload_n dX0_decide_71 rfl rfl ?_
    obtain ⟨⟨ga4, gs5⟩, h⟩ := gd_t h
    obtain ⟨r6, e7, h⟩ := bnd_t h
    refine a_get (v := .ref r6) dX0_decide_72 fl_0_28 ga4 gs5 (gvR e7 rfl) ?_
    refine a_iload_n dX0_decide_75 rfl rfl ?_
    obtain ⟨⟨ga8, gs9⟩, h⟩ := gd_t h
    obtain ⟨v10, M11, e12, h⟩ := bnd2_t h
    obtain ⟨n13, en14, e12⟩ := cal_t e12
    refine e_callV (As := [.int x2]) (st := [.ref a0]) (a := r6) (ci := 5) false dX0_decide_76 mw_X5_spotOf (Or.inl ⟨rfl, ml_X0_48⟩) im_X5_spotOf se_X5_spotOf (by decide) ga8 gs9 rfl (Nat.le_of_ble_eq_true rfl) en14 (s_X5_spotOf e12) ?_
    obtain ⟨v15, M16, e17, h⟩ := bnd2_t h
    obtain ⟨n18, en19, e17⟩ := cal_t e17
    refine e_callS (As := [.int v10]) (st := [.ref a0]) false dX0_decide_79 mw_X0_bit (Or.inl ⟨rfl, ml_X0_53⟩) sm_X0_bit rfl (Nat.le_of_ble_eq_true rfl) en19 (s_X0_bit e17) ?_
    obtain ⟨⟨ga20, gs21⟩, h⟩ := gd_t h
    refine a_putJ dX0_decide_82 (Or.inl ⟨fl_0_57, Or.inl rfl⟩) rfl ga20 gs21 ?_
    refine a_aload_n dX0_decide_85 rfl rfl ?_
    refine a_aload_n dX0_decide_86 rfl rfl ?_
    refine a_lload_n dX0_decide_87 rfl rfl ?_
    obtain ⟨v22, M23, e24, h⟩ := bnd2_t h
    obtain ⟨n25, en26, e24⟩ := cal_t e24
    refine e_callV (As := [.long j3]) (st := [.ref a0]) (a := a0) (ci := 0) false dX0_decide_88 mw_X0_findAsked (Or.inl ⟨rfl, ml_X0_61⟩) im_X0_findAsked se_X0_findAsked (by decide) ga20 gs21 rfl (Nat.le_of_ble_eq_true rfl) en26 (s_X0_findAsked e24) ?_
    obtain ⟨⟨ga27, gs28⟩, h⟩ := gd_t h
    refine a_putJ dX0_decide_91 (Or.inl ⟨fl_0_65, Or.inl rfl⟩) rfl ga27 gs28 ?_
    refine a_aload_n dX0_decide_94 rfl rfl ?_
    refine a_lload_n dX0_decide_95 rfl rfl ?_
    refine a_iconst (v := 0) dX0_decide_96 (by decide) ?_
    obtain ⟨v29, M30, e31, h⟩ := bnd2_t h
    obtain ⟨n32, en33, e31⟩ := cal_t e31
    refine e_callV (As := [.long j3, .int 0]) (st := []) (a := a0) (ci := 0) false dX0_decide_97 mw_X0_close (Or.inl ⟨rfl, ml_X0_68⟩) im_X0_close se_X0_close (by decide) ga27 gs28 rfl (Nat.le_of_ble_eq_true rfl) en33 (s_X0_close e31) ?_
    refine a_aload_n dX0_decide_100 rfl rfl ?_
    obtain ⟨⟨ga34, gs35⟩, h⟩ := gd_t h
    refine a_get (v := .long (M30.2.2.2.1 a0 8)) dX0_decide_101 fl_0_57 ga34 gs35 rfl ?_
    refine a_land dX0_decide_104 ?_
    refine a_lconst (v := 0) dX0_decide_105 (by decide) ?_
    refine a_lcmp dX0_decide_106 ?_
    refine a_if_eq 114 dX0_decide_107 (by decide) (fun c36 => ?_) (fun c36 => ?_)
    · replace h := ite_t c36 h
      refine a_iconst (v := 0) dX0_decide_114 (by decide) ?_
      exact a_zret dX0_decide_115 rfl rfl (hR _ _ h)
    · replace h := ite_f c36 h
      refine a_iconst (v := 1) dX0_decide_110 (by decide) ?_
      refine a_goto 115 dX0_decide_111 (by decide) ?_
      exact a_zret dX0_decide_115 rfl rfl (hR _ _ h)
  · replace h := ite_f c3 h
    refine a_lload_n dX0_decide_45 rfl rfl ?_
    refine a_aload_n dX0_decide_46 rfl rfl ?_
    obtain ⟨⟨ga37, gs38⟩, h⟩ := gd_t h
    obtain ⟨r39, e40, h⟩ := bnd_t h
    refine a_get (v := .ref r39) dX0_decide_47 fl_0_28 ga37 gs38 (gvR e40 rfl) ?_
    refine a_aload_n dX0_decide_50 rfl rfl ?_
    refine a_iload dX0_decide_51 rfl ?_
    obtain ⟨v41, M42, e43, h⟩ := bnd2_t h
    obtain ⟨n44, en45, e43⟩ := cal_t e43
    refine e_callV (As := [.int x5]) (st := [.ref r39, .long j3]) (a := a1) (ci := 2) false dX0_decide_53 mw_X2_formulaOf (Or.inl ⟨rfl, ml_X0_44⟩) im_X2_formulaOf se_X2_formulaOf (by decide) ga1 gs2 rfl (Nat.le_of_ble_eq_true rfl) en45 (s_X2_formulaOf e43) ?_
    obtain ⟨⟨ga46, gs47⟩, h⟩ := gd_t h
    obtain ⟨v48, M49, e50, h⟩ := bnd2_t h
    obtain ⟨n51, en52, e50⟩ := cal_t e50
    refine e_callV (As := [.int v41]) (st := [.long j3]) (a := r39) (ci := 5) false dX0_decide_56 mw_X5_spotOf (Or.inl ⟨rfl, ml_X0_48⟩) im_X5_spotOf se_X5_spotOf (by decide) ga46 gs47 rfl (Nat.le_of_ble_eq_true rfl) en52 (s_X5_spotOf e50) ?_
    obtain ⟨v53, M54, e55, h⟩ := bnd2_t h
    obtain ⟨n56, en57, e55⟩ := cal_t e55
    refine e_callS (As := [.int v48]) (st := [.long j3]) false dX0_decide_59 mw_X0_bit (Or.inl ⟨rfl, ml_X0_53⟩) sm_X0_bit rfl (Nat.le_of_ble_eq_true rfl) en57 (s_X0_bit e55) ?_
    refine a_lor dX0_decide_62 ?_
    refine a_lstore_n dX0_decide_63 rfl (Nat.le_of_ble_eq_true rfl) (lv2 := [(3, .long (j3 ||| v53)), (0, .ref a0), (1, .ref a1), (2, .int x2), (5, .int x5)]) rfl ?_
    refine a_iinc (v := (x5 + 1)) dX0_decide_64 rfl (by first | rfl | decide) (Nat.le_of_ble_eq_true rfl) (lv2 := [(5, .int (x5 + 1)), (3, .long (j3 ||| v53)), (0, .ref a0), (1, .ref a1), (2, .int x2)]) rfl ?_
    refine a_goto 36 dX0_decide_67 (by decide) ?_
    exact a_lv (lv2 := [(0, .ref a0), (1, .ref a1), (2, .int x2), (3, .long (j3 ||| v53)), (5, .int (x5 + 1))]) (fa_cons rfl (fa_cons rfl (fa_cons rfl (fa_cons rfl (fa_cons rfl fa_nil))))) (hJ _ _ _ h)
set_option maxHeartbeats 4000000 in
set_option maxRecDepth 100000 in
noncomputable def st_X0_decide (n : Nat) (s : Sg) : Option (Sg ⊕ (Int32 × Mem)) := if s.1 = 0 then vR s.2.1 none (fun a0 t => vR t none (fun a1 t => vI t none (fun x2 t => vE t none (T_X0_decide_0 (fun c l M => some (.inl (c, l, M))) (fun v M => some (.inr (v, M))) none n a0 a1 x2 s.2.2)))) else if s.1 = 11 then vR s.2.1 none (fun a0 t => vR t none (fun a1 t => vI t none (fun x2 t => vI t none (fun x3 t => vE t none (T_X0_decide_11 (fun c l M => some (.inl (c, l, M))) (fun v M => some (.inr (v, M))) none n a0 a1 x2 x3 s.2.2))))) else if s.1 = 36 then vR s.2.1 none (fun a0 t => vR t none (fun a1 t => vI t none (fun x2 t => vJ t none (fun j3 t => vI t none (fun x5 t => vE t none (T_X0_decide_36 (fun c l M => some (.inl (c, l, M))) (fun v M => some (.inr (v, M))) none n a0 a1 x2 j3 x5 s.2.2)))))) else none
noncomputable abbrev g_X0_decide_0 (n : Nat) (a0 : Nat) (a1 : Nat) (x2 : Int32) (M : Mem) : Option (Int32 × Mem) := lp (st_X0_decide n) (0, [.ref a0, .ref a1, .int x2], M)
set_option maxHeartbeats 4000000 in
set_option maxRecDepth 100000 in
theorem ge_X0_decide_0 (n : Nat) (a0 : Nat) (a1 : Nat) (x2 : Int32) (M : Mem) : g_X0_decide_0 n a0 a1 x2 M = T_X0_decide_0 (fun c l M => lp (st_X0_decide n) (c, l, M)) (fun v M => some (v, M)) none n a0 a1 x2 M := (lp_eq _ _).trans (n_X0_decide_0 (lpK (st_X0_decide n)) (fun c l M => some (.inl (c, l, M))) (fun v M => some (.inr (v, M))) none n a0 a1 x2 M)
noncomputable abbrev g_X0_decide_11 (n : Nat) (a0 : Nat) (a1 : Nat) (x2 : Int32) (x3 : Int32) (M : Mem) : Option (Int32 × Mem) := lp (st_X0_decide n) (11, [.ref a0, .ref a1, .int x2, .int x3], M)
set_option maxHeartbeats 4000000 in
set_option maxRecDepth 100000 in
theorem ge_X0_decide_11 (n : Nat) (a0 : Nat) (a1 : Nat) (x2 : Int32) (x3 : Int32) (M : Mem) : g_X0_decide_11 n a0 a1 x2 x3 M = T_X0_decide_11 (fun c l M => lp (st_X0_decide n) (c, l, M)) (fun v M => some (v, M)) none n a0 a1 x2 x3 M := (lp_eq _ _).trans (n_X0_decide_11 (lpK (st_X0_decide n)) (fun c l M => some (.inl (c, l, M))) (fun v M => some (.inr (v, M))) none n a0 a1 x2 x3 M)
noncomputable abbrev g_X0_decide_36 (n : Nat) (a0 : Nat) (a1 : Nat) (x2 : Int32) (j3 : Int64) (x5 : Int32) (M : Mem) : Option (Int32 × Mem) := lp (st_X0_decide n) (36, [.ref a0, .ref a1, .int x2, .long j3, .int x5], M)
set_option maxHeartbeats 4000000 in
set_option maxRecDepth 100000 in
theorem ge_X0_decide_36 (n : Nat) (a0 : Nat) (a1 : Nat) (x2 : Int32) (j3 : Int64) (x5 : Int32) (M : Mem) : g_X0_decide_36 n a0 a1 x2 j3 x5 M = T_X0_decide_36 (fun c l M => lp (st_X0_decide n) (c, l, M)) (fun v M => some (v, M)) none n a0 a1 x2 j3 x5 M := (lp_eq _ _).trans (n_X0_decide_36 (lpK (st_X0_decide n)) (fun c l M => some (.inl (c, l, M))) (fun v M => some (.inr (v, M))) none n a0 a1 x2 j3 x5 M)
noncomputable def b_X0_decide (n : Nat) (a0 : Nat) (a1 : Nat) (x2 : Int32) (M : Mem) : Option (Int32 × Mem) := g_X0_decide_0 n a0 a1 x2 M
set_option maxHeartbeats 4000000 in
set_option maxRecDepth 100000 in
theorem sb_X0_decide {X : Nat × (Nat → Int32)} {al : Bool} {n : Nat} {a0 : Nat} {a1 : Nat} {x2 : Int32} {M : Mem} {v : Int32} {M1 : Mem} (h : b_X0_decide n a0 a1 x2 M = some (v, M1)) : AE yX0_decide cX0_decide 6 (some .boolean) al n X [.ref a0, .ref a1, .int x2] M (some (.int v)) M1 := by
  refine AM.of false (by decide +kernel) (by intro h; cases h) (Nat.le_of_ble_eq_true rfl) ?_
  refine lp_snd (P := fun s r => PW_X0_decide X al n (fun v M2 => v = (some (.int r.1)) ∧ M2 = r.2) s.1 s.2.1 s.2.2) ?_ h
  clear h
  rintro ⟨c, l, M⟩ r h
  unfold st_X0_decide at h
  rcases ite_p h with ⟨e, h⟩ | ⟨e, h⟩
  · replace e : c = 0 := e
    subst e
    obtain ⟨a0, tt0, e, h⟩ := vR_p id h
    replace e : l = _ := e
    subst e
    obtain ⟨a1, tt1, e, h⟩ := vR_p id h
    replace e : tt0 = _ := e
    subst e
    obtain ⟨x2, tt2, e, h⟩ := vI_p id h
    replace e : tt1 = _ := e
    subst e
    obtain ⟨e, h⟩ := vE_p id h
    replace e : tt2 = [] := e
    subst e
    exact w_X0_decide_0 (J := fun c l M => PW_X0_decide X al n (fun v M2 => v = (some (.int r.1)) ∧ M2 = r.2) c l M) (R := fun v M => (v, M) = r) (fun _ _ _ h => h) (fun v M h => by cases h; exact ⟨rfl, rfl⟩) ((n_X0_decide_0 (lpP (fun (s : Sg) (r : Int32 × Mem) => PW_X0_decide X al n (fun v M2 => v = (some (.int r.1)) ∧ M2 = r.2) s.1 s.2.1 s.2.2) r) (fun c l M => some (.inl (c, l, M))) (fun v M => some (.inr (v, M))) none n a0 a1 x2 M).mp h)
  rcases ite_p h with ⟨e, h⟩ | ⟨e, h⟩
  · replace e : c = 11 := e
    subst e
    obtain ⟨a0, tt0, e, h⟩ := vR_p id h
    replace e : l = _ := e
    subst e
    obtain ⟨a1, tt1, e, h⟩ := vR_p id h
    replace e : tt0 = _ := e
    subst e
    obtain ⟨x2, tt2, e, h⟩ := vI_p id h
    replace e : tt1 = _ := e
    subst e
    obtain ⟨x3, tt3, e, h⟩ := vI_p id h
    replace e : tt2 = _ := e
    subst e
    obtain ⟨e, h⟩ := vE_p id h
    replace e : tt3 = [] := e
    subst e
    exact w_X0_decide_11 (J := fun c l M => PW_X0_decide X al n (fun v M2 => v = (some (.int r.1)) ∧ M2 = r.2) c l M) (R := fun v M => (v, M) = r) (fun _ _ _ h => h) (fun v M h => by cases h; exact ⟨rfl, rfl⟩) ((n_X0_decide_11 (lpP (fun (s : Sg) (r : Int32 × Mem) => PW_X0_decide X al n (fun v M2 => v = (some (.int r.1)) ∧ M2 = r.2) s.1 s.2.1 s.2.2) r) (fun c l M => some (.inl (c, l, M))) (fun v M => some (.inr (v, M))) none n a0 a1 x2 x3 M).mp h)
  rcases ite_p h with ⟨e, h⟩ | ⟨e, h⟩
  · replace e : c = 36 := e
    subst e
    obtain ⟨a0, tt0, e, h⟩ := vR_p id h
    replace e : l = _ := e
    subst e
    obtain ⟨a1, tt1, e, h⟩ := vR_p id h
    replace e : tt0 = _ := e
    subst e
    obtain ⟨x2, tt2, e, h⟩ := vI_p id h
    replace e : tt1 = _ := e
    subst e
    obtain ⟨j3, tt3, e, h⟩ := vJ_p id h
    replace e : tt2 = _ := e
    subst e
    obtain ⟨x5, tt4, e, h⟩ := vI_p id h
    replace e : tt3 = _ := e
    subst e
    obtain ⟨e, h⟩ := vE_p id h
    replace e : tt4 = [] := e
    subst e
    exact w_X0_decide_36 (J := fun c l M => PW_X0_decide X al n (fun v M2 => v = (some (.int r.1)) ∧ M2 = r.2) c l M) (R := fun v M => (v, M) = r) (fun _ _ _ h => h) (fun v M h => by cases h; exact ⟨rfl, rfl⟩) ((n_X0_decide_36 (lpP (fun (s : Sg) (r : Int32 × Mem) => PW_X0_decide X al n (fun v M2 => v = (some (.int r.1)) ∧ M2 = r.2) s.1 s.2.1 s.2.2) r) (fun c l M => some (.inl (c, l, M))) (fun v M => some (.inr (v, M))) none n a0 a1 x2 j3 x5 M).mp h)
  · exact h.elim

noncomputable abbrev f_X0_decide := b_X0_decide
theorem s_X0_decide {X : Nat × (Nat → Int32)} {al : Bool} {n : Nat} {a0 : Nat} {a1 : Nat} {x2 : Int32} {M : Mem} {v : Int32} {M1 : Mem} (h : f_X0_decide n a0 a1 x2 M = some (v, M1)) : AE yX0_decide cX0_decide 6 (some .boolean) al n X [.ref a0, .ref a1, .int x2] M (some (.int v)) M1 := sb_X0_decide h
set_option maxHeartbeats 4000000 in
set_option maxRecDepth 100000 in
noncomputable def T_X10_provableFrom_0.{u} {α : Sort u} (R : Int32 → Mem → α) (N : α) (n : Nat) (a0 : Nat) (x1 : Int32) (M : Mem) : α := gd (fO M a0 10) N (bnd (M.2.2.2.2 a0 3) N (fun r3 => gd (fO M r3 2) N (bnd2 (cal n (fun n => f_X2_wordsInAll n r3 M)) N (fun v7 M8 => gd (fO M8 a0 10) N (if (v7 + (M8.2.2.1 a0 17)) ≤ 40 then bnd (M8.2.2.2.2 a0 11) N (fun r15 => bnd (M8.2.2.2.2 a0 3) N (fun r17 => gd (fO M8 r15 5) N (bnd2 (cal n (fun n => f_X5_collect n r15 r17 x1 M8)) N (fun _ M21 => gd (fO M21 a0 10) N (bnd (M21.2.2.2.2 a0 12) N (fun r27 => bnd (M21.2.2.2.2 a0 3) N (fun r29 => gd (fO M21 r27 0) N (bnd2 (cal n (fun n => f_X0_decide n r27 r29 x1 M21)) N (fun v33 M34 => if v33 = 0 then R 0 M34 else R 1 M34))))))))) else R (-4) M8)))))
set_option maxHeartbeats 4000000 in
set_option maxRecDepth 100000 in
theorem n_X10_provableFrom_0.{u, v} {α : Sort u} {β : Sort v} (h : α → β) (R : Int32 → Mem → α) (N : α) (n : Nat) (a0 : Nat) (x1 : Int32) (M : Mem) : h (T_X10_provableFrom_0 R N n a0 x1 M) = T_X10_provableFrom_0 (fun v M => h (R v M)) (h N) n a0 x1 M := by
  simp only [T_X10_provableFrom_0, nat_ite h, nat_gd h, nat_bnd h, nat_bnd2 h]
set_option maxHeartbeats 4000000 in
set_option maxRecDepth 100000 in
theorem w_X10_provableFrom_0 {X : Nat × (Nat → Int32)} {al : Bool} {n : Nat} {Q : Option Value → Mem → Prop} {R : Int32 → Mem → Prop} (hR : ∀ v M, R v M → Q (some (.int v)) M) {a0 : Nat} {x1 : Int32} {M : Mem} (h : T_X10_provableFrom_0 R False n a0 x1 M) : AW X (RX10, cX10_provableFrom, 2, (some .int), false, al, n) 0 0 0 [(0, .ref a0), (1, .int x1)] [] M Q := by
  unfold T_X10_provableFrom_0 at h
  refine a_aload_n dX10_provableFrom_0 rfl rfl ?_
  obtain ⟨⟨ga1, gs2⟩, h⟩ := gd_t h
  obtain ⟨r3, e4, h⟩ := bnd_t h
  refine a_get (v := .ref r3) dX10_provableFrom_1 fl_10_23 ga1 gs2 (gvR e4 rfl) ?_
  obtain ⟨⟨ga5, gs6⟩, h⟩ := gd_t h
  obtain ⟨v7, M8, e9, h⟩ := bnd2_t h
  obtain ⟨n10, en11, e9⟩ := cal_t e9
  refine e_callV (As := []) (st := []) (a := r3) (ci := 2) false dX10_provableFrom_4 mw_X2_wordsInAll (Or.inl ⟨rfl, ml_X10_318⟩) im_X2_wordsInAll se_X2_wordsInAll (by decide) ga5 gs6 rfl (Nat.le_of_ble_eq_true rfl) en11 (s_X2_wordsInAll e9) ?_
  refine a_aload_n dX10_provableFrom_7 rfl rfl ?_
  obtain ⟨⟨ga12, gs13⟩, h⟩ := gd_t h
  refine a_get (v := .int (M8.2.2.1 a0 17)) dX10_provableFrom_8 fl_10_109 ga12 gs13 rfl ?_
  refine a_iadd dX10_provableFrom_11 ?_
  refine a_bipush (v := 40) dX10_provableFrom_12 (by decide) ?_
  refine a_icmp_le 20 dX10_provableFrom_14 (by decide) (fun c14 => ?_) (fun c14 => ?_)
  · replace h := ite_t c14 h
    refine a_aload_n dX10_provableFrom_20 rfl rfl ?_
    obtain ⟨r15, e16, h⟩ := bnd_t h
    refine a_get (v := .ref r15) dX10_provableFrom_21 fl_10_86 ga12 gs13 (gvR e16 rfl) ?_
    refine a_aload_n dX10_provableFrom_24 rfl rfl ?_
    obtain ⟨r17, e18, h⟩ := bnd_t h
    refine a_get (v := .ref r17) dX10_provableFrom_25 fl_10_23 ga12 gs13 (gvR e18 rfl) ?_
    refine a_iload_n dX10_provableFrom_28 rfl rfl ?_
    obtain ⟨⟨ga19, gs20⟩, h⟩ := gd_t h
    obtain ⟨_, M21, e22, h⟩ := bnd2_t h
    obtain ⟨n23, en24, e22⟩ := cal_t e22
    refine e_callV (As := [.ref r17, .int x1]) (st := []) (a := r15) (ci := 5) false dX10_provableFrom_29 mw_X5_collect (Or.inl ⟨rfl, ml_X10_321⟩) im_X5_collect se_X5_collect (by decide) ga19 gs20 rfl (Nat.le_of_ble_eq_true rfl) en24 (s_X5_collect e22) ?_
    refine a_aload_n dX10_provableFrom_32 rfl rfl ?_
    obtain ⟨⟨ga25, gs26⟩, h⟩ := gd_t h
    obtain ⟨r27, e28, h⟩ := bnd_t h
    refine a_get (v := .ref r27) dX10_provableFrom_33 fl_10_95 ga25 gs26 (gvR e28 rfl) ?_
    refine a_aload_n dX10_provableFrom_36 rfl rfl ?_
    obtain ⟨r29, e30, h⟩ := bnd_t h
    refine a_get (v := .ref r29) dX10_provableFrom_37 fl_10_23 ga25 gs26 (gvR e30 rfl) ?_
    refine a_iload_n dX10_provableFrom_40 rfl rfl ?_
    obtain ⟨⟨ga31, gs32⟩, h⟩ := gd_t h
    obtain ⟨v33, M34, e35, h⟩ := bnd2_t h
    obtain ⟨n36, en37, e35⟩ := cal_t e35
    refine e_callV (As := [.ref r29, .int x1]) (st := []) (a := r27) (ci := 0) false dX10_provableFrom_41 mw_X0_decide (Or.inl ⟨rfl, ml_X10_325⟩) im_X0_decide se_X0_decide (by decide) ga31 gs32 rfl (Nat.le_of_ble_eq_true rfl) en37 (s_X0_decide e35) ?_
    refine a_if_eq 51 dX10_provableFrom_44 (by decide) (fun c38 => ?_) (fun c38 => ?_)
    · replace h := ite_t c38 h
      refine a_iconst (v := 0) dX10_provableFrom_51 (by decide) ?_
      exact a_iret dX10_provableFrom_52 rfl (hR _ _ h)
    · replace h := ite_f c38 h
      refine a_iconst (v := 1) dX10_provableFrom_47 (by decide) ?_
      refine a_goto 52 dX10_provableFrom_48 (by decide) ?_
      exact a_iret dX10_provableFrom_52 rfl (hR _ _ h)
  · replace h := ite_f c14 h
    refine a_bipush (v := -4) dX10_provableFrom_17 (by decide) ?_
    exact a_iret dX10_provableFrom_19 rfl (hR _ _ h)
noncomputable def b_X10_provableFrom (n : Nat) (a0 : Nat) (x1 : Int32) (M : Mem) : Option (Int32 × Mem) := T_X10_provableFrom_0 (fun v M => some (v, M)) none n a0 x1 M
set_option maxHeartbeats 4000000 in
set_option maxRecDepth 100000 in
theorem sb_X10_provableFrom {X : Nat × (Nat → Int32)} {al : Bool} {n : Nat} {a0 : Nat} {x1 : Int32} {M : Mem} {v : Int32} {M1 : Mem} (h : b_X10_provableFrom n a0 x1 M = some (v, M1)) : AE yX10_provableFrom cX10_provableFrom 2 (some .int) al n X [.ref a0, .int x1] M (some (.int v)) M1 := by
  refine AM.of false (by decide +kernel) (by intro h; cases h) (Nat.le_of_ble_eq_true rfl) ?_
  have h2 : T_X10_provableFrom_0 (fun v2 M2 => some (v2, M2) = some (v, M1)) (none = some (v, M1)) n a0 x1 M := (n_X10_provableFrom_0 (fun o => o = some (v, M1)) (fun v M => some (v, M)) none n a0 x1 M).mp h
  have h3 : ((none : Option (Int32 × Mem)) = some (v, M1)) = False := eq_false (by intro q; cases q)
  rw [h3] at h2
  exact w_X10_provableFrom_0 (fun v2 M2 h => by cases h; exact ⟨rfl, rfl⟩) h2

noncomputable abbrev f_X10_provableFrom := b_X10_provableFrom
theorem s_X10_provableFrom {X : Nat × (Nat → Int32)} {al : Bool} {n : Nat} {a0 : Nat} {x1 : Int32} {M : Mem} {v : Int32} {M1 : Mem} (h : f_X10_provableFrom n a0 x1 M = some (v, M1)) : AE yX10_provableFrom cX10_provableFrom 2 (some .int) al n X [.ref a0, .int x1] M (some (.int v)) M1 := sb_X10_provableFrom h
set_option maxHeartbeats 4000000 in
set_option maxRecDepth 100000 in
noncomputable def T_X10_provable_0.{u} {α : Sort u} (R : Int32 → Mem → α) (N : α) (n : Nat) (a0 : Nat) (M : Mem) : α := gd (fO M a0 10) N (bnd2 (cal n (fun n => f_X10_provableFrom n a0 (M.2.2.1 a0 16) M)) N (fun v3 M4 => R v3 M4))
set_option maxHeartbeats 4000000 in
set_option maxRecDepth 100000 in
theorem n_X10_provable_0.{u, v} {α : Sort u} {β : Sort v} (h : α → β) (R : Int32 → Mem → α) (N : α) (n : Nat) (a0 : Nat) (M : Mem) : h (T_X10_provable_0 R N n a0 M) = T_X10_provable_0 (fun v M => h (R v M)) (h N) n a0 M := by
  simp only [T_X10_provable_0, nat_ite h, nat_gd h, nat_bnd h, nat_bnd2 h]
set_option maxHeartbeats 4000000 in
set_option maxRecDepth 100000 in
theorem w_X10_provable_0 {X : Nat × (Nat → Int32)} {al : Bool} {n : Nat} {Q : Option Value → Mem → Prop} {R : Int32 → Mem → Prop} (hR : ∀ v M, R v M → Q (some (.int v)) M) {a0 : Nat} {M : Mem} (h : T_X10_provable_0 R False n a0 M) : AW X (RX10, cX10_provable, 1, (some .int), false, al, n) 0 0 0 [(0, .ref a0)] [] M Q := by
  unfold T_X10_provable_0 at h
  refine a_aload_n dX10_provable_0 rfl rfl ?_
  refine a_aload_n dX10_provable_1 rfl rfl ?_
  obtain ⟨⟨ga1, gs2⟩, h⟩ := gd_t h
  refine a_get (v := .int (M.2.2.1 a0 16)) dX10_provable_2 fl_10_105 ga1 gs2 rfl ?_
  obtain ⟨v3, M4, e5, h⟩ := bnd2_t h
  obtain ⟨n6, en7, e5⟩ := cal_t e5
  refine e_callV (As := [.int (M.2.2.1 a0 16)]) (st := []) (a := a0) (ci := 10) false dX10_provable_5 mw_X10_provableFrom (Or.inl ⟨rfl, ml_X10_309⟩) im_X10_provableFrom se_X10_provableFrom (by decide) ga1 gs2 rfl (Nat.le_of_ble_eq_true rfl) en7 (s_X10_provableFrom e5) ?_
  exact a_iret dX10_provable_8 rfl (hR _ _ h)
noncomputable def b_X10_provable (n : Nat) (a0 : Nat) (M : Mem) : Option (Int32 × Mem) := T_X10_provable_0 (fun v M => some (v, M)) none n a0 M
set_option maxHeartbeats 4000000 in
set_option maxRecDepth 100000 in
theorem sb_X10_provable {X : Nat × (Nat → Int32)} {al : Bool} {n : Nat} {a0 : Nat} {M : Mem} {v : Int32} {M1 : Mem} (h : b_X10_provable n a0 M = some (v, M1)) : AE yX10_provable cX10_provable 1 (some .int) al n X [.ref a0] M (some (.int v)) M1 := by
  refine AM.of false (by decide +kernel) (by intro h; cases h) (Nat.le_of_ble_eq_true rfl) ?_
  have h2 : T_X10_provable_0 (fun v2 M2 => some (v2, M2) = some (v, M1)) (none = some (v, M1)) n a0 M := (n_X10_provable_0 (fun o => o = some (v, M1)) (fun v M => some (v, M)) none n a0 M).mp h
  have h3 : ((none : Option (Int32 × Mem)) = some (v, M1)) = False := eq_false (by intro q; cases q)
  rw [h3] at h2
  exact w_X10_provable_0 (fun v2 M2 h => by cases h; exact ⟨rfl, rfl⟩) h2

noncomputable abbrev f_X10_provable := b_X10_provable
theorem s_X10_provable {X : Nat × (Nat → Int32)} {al : Bool} {n : Nat} {a0 : Nat} {M : Mem} {v : Int32} {M1 : Mem} (h : f_X10_provable n a0 M = some (v, M1)) : AE yX10_provable cX10_provable 1 (some .int) al n X [.ref a0] M (some (.int v)) M1 := sb_X10_provable h
set_option maxHeartbeats 4000000 in
set_option maxRecDepth 100000 in
noncomputable def T_X11_wordsOf_0.{u} {α : Sort u} (R : Int32 → Mem → α) (N : α) (cl : Nat → List Value → Mem → Option (Int32 × Mem)) (n : Nat) (a0 : Nat) (x1 : Int32) (M : Mem) : α := gd (fO M a0 11) N (bnd (M.2.2.2.2 a0 2) N (fun r3 => gd (fA M r3 1 x1) N (if (M.2.2.1 r3 (x1.toNatClampNeg)) = (-1) then R 1 M else bnd2 (cl 0 [.ref a0, .int (M.2.2.1 r3 (x1.toNatClampNeg))] M) N (fun v10 M11 => gd (fO M11 a0 11) N (bnd (M11.2.2.2.2 a0 3) N (fun r17 => gd (fA M11 r17 1 x1) N (bnd2 (cl 0 [.ref a0, .int (M11.2.2.1 r17 (x1.toNatClampNeg))] M11) N (fun v23 M24 => R ((1 + v10) + v23) M24))))))))
set_option maxHeartbeats 4000000 in
set_option maxRecDepth 100000 in
theorem n_X11_wordsOf_0.{u, v} {α : Sort u} {β : Sort v} (h : α → β) (R : Int32 → Mem → α) (N : α) (cl : Nat → List Value → Mem → Option (Int32 × Mem)) (n : Nat) (a0 : Nat) (x1 : Int32) (M : Mem) : h (T_X11_wordsOf_0 R N cl n a0 x1 M) = T_X11_wordsOf_0 (fun v M => h (R v M)) (h N) cl n a0 x1 M := by
  simp only [T_X11_wordsOf_0, nat_ite h, nat_gd h, nat_bnd h, nat_bnd2 h]
set_option maxHeartbeats 4000000 in
set_option maxRecDepth 100000 in
theorem w_X11_wordsOf_0 {X : Nat × (Nat → Int32)} {al : Bool} {n : Nat} {Q : Option Value → Mem → Prop} {R : Int32 → Mem → Prop} (hR : ∀ v M, R v M → Q (some (.int v)) M) {cl : Nat → List Value → Mem → Option (Int32 × Mem)} (hc_X11_wordsOf : ∀ {a0 : Nat} {x1 : Int32} {M : Mem} {v : Int32} {M1 : Mem}, cl 0 [.ref a0, .int x1] M = some (v, M1) → ∃ k, n = k + 1 ∧ AE yX11_wordsOf cX11_wordsOf 2 (some .int) al k X [.ref a0, .int x1] M (some (.int v)) M1) {a0 : Nat} {x1 : Int32} {M : Mem} (h : T_X11_wordsOf_0 R False cl n a0 x1 M) : AW X (RX11, cX11_wordsOf, 2, (some .int), false, al, n) 0 0 0 [(0, .ref a0), (1, .int x1)] [] M Q := by
  unfold T_X11_wordsOf_0 at h
  refine a_aload_n dX11_wordsOf_0 rfl rfl ?_
  obtain ⟨⟨ga1, gs2⟩, h⟩ := gd_t h
  obtain ⟨r3, e4, h⟩ := bnd_t h
  refine a_get (v := .ref r3) dX11_wordsOf_1 fl_11_17 ga1 gs2 (gvR e4 rfl) ?_
  refine a_iload_n dX11_wordsOf_4 rfl rfl ?_
  obtain ⟨⟨ga5, gn6, gs7, gi8⟩, h⟩ := gd_t h
  refine a_iaload dX11_wordsOf_5 ga5 gs7 gi8 ?_
  refine a_iconst (v := -1) dX11_wordsOf_6 (by decide) ?_
  refine a_icmp_ne 14 dX11_wordsOf_7 (by decide) (fun c9 => ?_) (fun c9 => ?_)
  · replace h := ite_f c9 h
    refine a_iconst (v := 1) dX11_wordsOf_14 (by decide) ?_
    refine a_aload_n dX11_wordsOf_15 rfl rfl ?_
    refine a_aload_n dX11_wordsOf_16 rfl rfl ?_
    refine a_get (v := .ref r3) dX11_wordsOf_17 fl_11_17 ga1 gs2 (gvR e4 rfl) ?_
    refine a_iload_n dX11_wordsOf_20 rfl rfl ?_
    refine a_iaload dX11_wordsOf_21 ga5 gs7 gi8 ?_
    obtain ⟨v10, M11, e12, h⟩ := bnd2_t h
    obtain ⟨n13, en14, e12⟩ := hc_X11_wordsOf e12
    refine e_callV (As := [.int (M.2.2.1 r3 (x1.toNatClampNeg))]) (st := [.int 1]) (a := a0) (ci := 11) false dX11_wordsOf_22 mw_X11_wordsOf (Or.inl ⟨rfl, ml_X11_435⟩) im_X11_wordsOf se_X11_wordsOf (by decide) ga1 gs2 rfl (Nat.le_of_ble_eq_true rfl) en14 e12 ?_
    refine a_iadd dX11_wordsOf_25 ?_
    refine a_aload_n dX11_wordsOf_26 rfl rfl ?_
    refine a_aload_n dX11_wordsOf_27 rfl rfl ?_
    obtain ⟨⟨ga15, gs16⟩, h⟩ := gd_t h
    obtain ⟨r17, e18, h⟩ := bnd_t h
    refine a_get (v := .ref r17) dX11_wordsOf_28 fl_11_20 ga15 gs16 (gvR e18 rfl) ?_
    refine a_iload_n dX11_wordsOf_31 rfl rfl ?_
    obtain ⟨⟨ga19, gn20, gs21, gi22⟩, h⟩ := gd_t h
    refine a_iaload dX11_wordsOf_32 ga19 gs21 gi22 ?_
    obtain ⟨v23, M24, e25, h⟩ := bnd2_t h
    obtain ⟨n26, en27, e25⟩ := hc_X11_wordsOf e25
    refine e_callV (As := [.int (M11.2.2.1 r17 (x1.toNatClampNeg))]) (st := [.int (1 + v10)]) (a := a0) (ci := 11) false dX11_wordsOf_33 mw_X11_wordsOf (Or.inl ⟨rfl, ml_X11_435⟩) im_X11_wordsOf se_X11_wordsOf (by decide) ga15 gs16 rfl (Nat.le_of_ble_eq_true rfl) en27 e25 ?_
    refine a_iadd dX11_wordsOf_36 ?_
    exact a_iret dX11_wordsOf_37 rfl (hR _ _ h)
  · replace h := ite_t c9 h
    refine a_iconst (v := 1) dX11_wordsOf_10 (by decide) ?_
    refine a_goto 37 dX11_wordsOf_11 (by decide) ?_
    exact a_iret dX11_wordsOf_37 rfl (hR _ _ h)
noncomputable def b_X11_wordsOf (cl : Nat → List Value → Mem → Option (Int32 × Mem)) (n : Nat) (a0 : Nat) (x1 : Int32) (M : Mem) : Option (Int32 × Mem) := T_X11_wordsOf_0 (fun v M => some (v, M)) none cl n a0 x1 M
set_option maxHeartbeats 4000000 in
set_option maxRecDepth 100000 in
theorem sb_X11_wordsOf {X : Nat × (Nat → Int32)} {al : Bool} {n : Nat} {cl : Nat → List Value → Mem → Option (Int32 × Mem)} (hc_X11_wordsOf : ∀ {a0 : Nat} {x1 : Int32} {M : Mem} {v : Int32} {M1 : Mem}, cl 0 [.ref a0, .int x1] M = some (v, M1) → ∃ k, n = k + 1 ∧ AE yX11_wordsOf cX11_wordsOf 2 (some .int) al k X [.ref a0, .int x1] M (some (.int v)) M1) {a0 : Nat} {x1 : Int32} {M : Mem} {v : Int32} {M1 : Mem} (h : b_X11_wordsOf cl n a0 x1 M = some (v, M1)) : AE yX11_wordsOf cX11_wordsOf 2 (some .int) al n X [.ref a0, .int x1] M (some (.int v)) M1 := by
  refine AM.of false (by decide +kernel) (by intro h; cases h) (Nat.le_of_ble_eq_true rfl) ?_
  have h2 : T_X11_wordsOf_0 (fun v2 M2 => some (v2, M2) = some (v, M1)) (none = some (v, M1)) cl n a0 x1 M := (n_X11_wordsOf_0 (fun o => o = some (v, M1)) (fun v M => some (v, M)) none cl n a0 x1 M).mp h
  have h3 : ((none : Option (Int32 × Mem)) = some (v, M1)) = False := eq_false (by intro q; cases q)
  rw [h3] at h2
  exact w_X11_wordsOf_0 (fun v2 M2 h => by cases h; exact ⟨rfl, rfl⟩) hc_X11_wordsOf h2

noncomputable def F_X11_wordsOf (cl : Nat → List Value → Mem → Option (Int32 × Mem)) (n k : Nat) (l : List Value) (M : Mem) : Option (Int32 × Mem) := if k = 0 then vR l none (fun a0 t => vI t none (fun x1 t => vE t none (b_X11_wordsOf cl n a0 x1 M))) else none
noncomputable def r_X11_wordsOf : Nat → Nat → List Value → Mem → Option (Int32 × Mem)
  | 0 => F_X11_wordsOf (fun _ _ _ => none) 0
  | n + 1 => F_X11_wordsOf (r_X11_wordsOf n) (n + 1)
noncomputable abbrev f_X11_wordsOf (n : Nat) (a0 : Nat) (x1 : Int32) (M : Mem) : Option (Int32 × Mem) := r_X11_wordsOf n 0 [.ref a0, .int x1] M
set_option maxHeartbeats 4000000 in
set_option maxRecDepth 100000 in
theorem sr_X11_wordsOf {X : Nat × (Nat → Int32)} {al : Bool} : ∀ n : Nat, (∀ {a0 : Nat} {x1 : Int32} {M : Mem} {v : Int32} {M1 : Mem}, f_X11_wordsOf n a0 x1 M = some (v, M1) → AE yX11_wordsOf cX11_wordsOf 2 (some .int) al n X [.ref a0, .int x1] M (some (.int v)) M1) := by
  intro n
  induction n with
  | zero => exact (fun h => sb_X11_wordsOf (cl := fun _ _ _ => none) (fun h => by cases h) h)
  | succ n ih => exact (fun h => sb_X11_wordsOf (cl := r_X11_wordsOf n) (fun h => ⟨n, rfl, ih h⟩) h)
theorem s_X11_wordsOf {X : Nat × (Nat → Int32)} {al : Bool} {n : Nat} {a0 : Nat} {x1 : Int32} {M : Mem} {v : Int32} {M1 : Mem} (h : f_X11_wordsOf n a0 x1 M = some (v, M1)) : AE yX11_wordsOf cX11_wordsOf 2 (some .int) al n X [.ref a0, .int x1] M (some (.int v)) M1 := (sr_X11_wordsOf n) h
def ix_X11_isHad (c : Nat) : List Nat := if c = 0 then [0, 1, 2, 3] else if c = 3 then [0, 2, 3, 4] else []
def PW_X11_isHad (X : Nat × (Nat → Int32)) (al : Bool) (n : Nat) (Q : Option Value → Mem → Prop) (c : Nat) (l : List Value) (M : Mem) : Prop := AW X (RX11, cX11_isHad, 5, (some .boolean), false, al, n) 0 0 c (List.zip (ix_X11_isHad c) l) (l.drop (ix_X11_isHad c).length) M Q
set_option maxHeartbeats 4000000 in
set_option maxRecDepth 100000 in
noncomputable def T_X11_isHad_0.{u} {α : Sort u} (J : Nat → List Value → Mem → α) (R : Int32 → Mem → α) (N : α) (n : Nat) (a0 : Nat) (x1 : Int32) (x2 : Int32) (x3 : Int32) (M : Mem) : α := J 3 [.ref a0, .int x2, .int x3, .int x1] M
set_option maxHeartbeats 4000000 in
set_option maxRecDepth 100000 in
theorem n_X11_isHad_0.{u, v} {α : Sort u} {β : Sort v} (h : α → β) (J : Nat → List Value → Mem → α) (R : Int32 → Mem → α) (N : α) (n : Nat) (a0 : Nat) (x1 : Int32) (x2 : Int32) (x3 : Int32) (M : Mem) : h (T_X11_isHad_0 J R N n a0 x1 x2 x3 M) = T_X11_isHad_0 (fun c l M => h (J c l M)) (fun v M => h (R v M)) (h N) n a0 x1 x2 x3 M := by
  simp only [T_X11_isHad_0, nat_ite h, nat_gd h, nat_bnd h, nat_bnd2 h]
set_option maxHeartbeats 4000000 in
set_option maxRecDepth 100000 in
theorem w_X11_isHad_0 {X : Nat × (Nat → Int32)} {al : Bool} {n : Nat} {Q : Option Value → Mem → Prop} {J : Nat → List Value → Mem → Prop} (hJ : ∀ c l M, J c l M → PW_X11_isHad X al n Q c l M) {R : Int32 → Mem → Prop} (hR : ∀ v M, R v M → Q (some (.int v)) M) {a0 : Nat} {x1 : Int32} {x2 : Int32} {x3 : Int32} {M : Mem} (h : T_X11_isHad_0 J R False n a0 x1 x2 x3 M) : AW X (RX11, cX11_isHad, 5, (some .boolean), false, al, n) 0 0 0 [(0, .ref a0), (1, .int x1), (2, .int x2), (3, .int x3)] [] M Q := by
  unfold T_X11_isHad_0 at h
  refine a_iload_n dX11_isHad_0 rfl rfl ?_
  refine a_istore dX11_isHad_1 (Nat.le_of_ble_eq_true rfl) (lv2 := [(4, .int x1), (0, .ref a0), (1, .int x1), (2, .int x2), (3, .int x3)]) rfl ?_
  exact a_lv (lv2 := [(0, .ref a0), (2, .int x2), (3, .int x3), (4, .int x1)]) (fa_cons rfl (fa_cons rfl (fa_cons rfl (fa_cons rfl fa_nil)))) (hJ _ _ _ h)
set_option maxHeartbeats 4000000 in
set_option maxRecDepth 100000 in
noncomputable def T_X11_isHad_3.{u} {α : Sort u} (J : Nat → List Value → Mem → α) (R : Int32 → Mem → α) (N : α) (n : Nat) (a0 : Nat) (x2 : Int32) (x3 : Int32) (x4 : Int32) (M : Mem) : α := if x2 ≤ x4 then R 0 M else gd (fO M a0 11) N (bnd (M.2.2.2.2 a0 60) N (fun r4 => gd (fA M r4 1 x4) N (if (M.2.2.1 r4 (x4.toNatClampNeg)) = x3 then R 1 M else J 3 [.ref a0, .int x2, .int x3, .int (x4 + 1)] M)))
set_option maxHeartbeats 4000000 in
set_option maxRecDepth 100000 in
theorem n_X11_isHad_3.{u, v} {α : Sort u} {β : Sort v} (h : α → β) (J : Nat → List Value → Mem → α) (R : Int32 → Mem → α) (N : α) (n : Nat) (a0 : Nat) (x2 : Int32) (x3 : Int32) (x4 : Int32) (M : Mem) : h (T_X11_isHad_3 J R N n a0 x2 x3 x4 M) = T_X11_isHad_3 (fun c l M => h (J c l M)) (fun v M => h (R v M)) (h N) n a0 x2 x3 x4 M := by
  simp only [T_X11_isHad_3, nat_ite h, nat_gd h, nat_bnd h, nat_bnd2 h]
set_option maxHeartbeats 4000000 in
set_option maxRecDepth 100000 in
theorem w_X11_isHad_3 {X : Nat × (Nat → Int32)} {al : Bool} {n : Nat} {Q : Option Value → Mem → Prop} {J : Nat → List Value → Mem → Prop} (hJ : ∀ c l M, J c l M → PW_X11_isHad X al n Q c l M) {R : Int32 → Mem → Prop} (hR : ∀ v M, R v M → Q (some (.int v)) M) {a0 : Nat} {x2 : Int32} {x3 : Int32} {x4 : Int32} {M : Mem} (h : T_X11_isHad_3 J R False n a0 x2 x3 x4 M) : AW X (RX11, cX11_isHad, 5, (some .boolean), false, al, n) 0 0 3 [(0, .ref a0), (2, .int x2), (3, .int x3), (4, .int x4)] [] M Q := by
  unfold T_X11_isHad_3 at h
  refine a_iload dX11_isHad_3 rfl ?_
  refine a_iload_n dX11_isHad_5 rfl rfl ?_
  refine a_icmp_ge 28 dX11_isHad_6 (by decide) (fun c1 => ?_) (fun c1 => ?_)
  · replace h := ite_t c1 h
    refine a_iconst (v := 0) dX11_isHad_28 (by decide) ?_
    exact a_zret dX11_isHad_29 rfl rfl (hR _ _ h)
  · replace h := ite_f c1 h
    refine a_aload_n dX11_isHad_9 rfl rfl ?_
    obtain ⟨⟨ga2, gs3⟩, h⟩ := gd_t h
    obtain ⟨r4, e5, h⟩ := bnd_t h
    refine a_get (v := .ref r4) dX11_isHad_10 fl_11_124 ga2 gs3 (gvR e5 rfl) ?_
    refine a_iload dX11_isHad_13 rfl ?_
    obtain ⟨⟨ga6, gn7, gs8, gi9⟩, h⟩ := gd_t h
    refine a_iaload dX11_isHad_15 ga6 gs8 gi9 ?_
    refine a_iload_n dX11_isHad_16 rfl rfl ?_
    refine a_icmp_ne 22 dX11_isHad_17 (by decide) (fun c10 => ?_) (fun c10 => ?_)
    · replace h := ite_f c10 h
      refine a_iinc (v := (x4 + 1)) dX11_isHad_22 rfl (by first | rfl | decide) (Nat.le_of_ble_eq_true rfl) (lv2 := [(4, .int (x4 + 1)), (0, .ref a0), (2, .int x2), (3, .int x3)]) rfl ?_
      refine a_goto 3 dX11_isHad_25 (by decide) ?_
      exact a_lv (lv2 := [(0, .ref a0), (2, .int x2), (3, .int x3), (4, .int (x4 + 1))]) (fa_cons rfl (fa_cons rfl (fa_cons rfl (fa_cons rfl fa_nil)))) (hJ _ _ _ h)
    · replace h := ite_t c10 h
      refine a_iconst (v := 1) dX11_isHad_20 (by decide) ?_
      exact a_zret dX11_isHad_21 rfl rfl (hR _ _ h)
set_option maxHeartbeats 4000000 in
set_option maxRecDepth 100000 in
noncomputable def st_X11_isHad (n : Nat) (s : Sg) : Option (Sg ⊕ (Int32 × Mem)) := if s.1 = 0 then vR s.2.1 none (fun a0 t => vI t none (fun x1 t => vI t none (fun x2 t => vI t none (fun x3 t => vE t none (T_X11_isHad_0 (fun c l M => some (.inl (c, l, M))) (fun v M => some (.inr (v, M))) none n a0 x1 x2 x3 s.2.2))))) else if s.1 = 3 then vR s.2.1 none (fun a0 t => vI t none (fun x2 t => vI t none (fun x3 t => vI t none (fun x4 t => vE t none (T_X11_isHad_3 (fun c l M => some (.inl (c, l, M))) (fun v M => some (.inr (v, M))) none n a0 x2 x3 x4 s.2.2))))) else none
noncomputable abbrev g_X11_isHad_0 (n : Nat) (a0 : Nat) (x1 : Int32) (x2 : Int32) (x3 : Int32) (M : Mem) : Option (Int32 × Mem) := lp (st_X11_isHad n) (0, [.ref a0, .int x1, .int x2, .int x3], M)
set_option maxHeartbeats 4000000 in
set_option maxRecDepth 100000 in
theorem ge_X11_isHad_0 (n : Nat) (a0 : Nat) (x1 : Int32) (x2 : Int32) (x3 : Int32) (M : Mem) : g_X11_isHad_0 n a0 x1 x2 x3 M = T_X11_isHad_0 (fun c l M => lp (st_X11_isHad n) (c, l, M)) (fun v M => some (v, M)) none n a0 x1 x2 x3 M := (lp_eq _ _).trans (n_X11_isHad_0 (lpK (st_X11_isHad n)) (fun c l M => some (.inl (c, l, M))) (fun v M => some (.inr (v, M))) none n a0 x1 x2 x3 M)
noncomputable abbrev g_X11_isHad_3 (n : Nat) (a0 : Nat) (x2 : Int32) (x3 : Int32) (x4 : Int32) (M : Mem) : Option (Int32 × Mem) := lp (st_X11_isHad n) (3, [.ref a0, .int x2, .int x3, .int x4], M)
set_option maxHeartbeats 4000000 in
set_option maxRecDepth 100000 in
theorem ge_X11_isHad_3 (n : Nat) (a0 : Nat) (x2 : Int32) (x3 : Int32) (x4 : Int32) (M : Mem) : g_X11_isHad_3 n a0 x2 x3 x4 M = T_X11_isHad_3 (fun c l M => lp (st_X11_isHad n) (c, l, M)) (fun v M => some (v, M)) none n a0 x2 x3 x4 M := (lp_eq _ _).trans (n_X11_isHad_3 (lpK (st_X11_isHad n)) (fun c l M => some (.inl (c, l, M))) (fun v M => some (.inr (v, M))) none n a0 x2 x3 x4 M)
noncomputable def b_X11_isHad (n : Nat) (a0 : Nat) (x1 : Int32) (x2 : Int32) (x3 : Int32) (M : Mem) : Option (Int32 × Mem) := g_X11_isHad_0 n a0 x1 x2 x3 M
set_option maxHeartbeats 4000000 in
set_option maxRecDepth 100000 in
theorem sb_X11_isHad {X : Nat × (Nat → Int32)} {al : Bool} {n : Nat} {a0 : Nat} {x1 : Int32} {x2 : Int32} {x3 : Int32} {M : Mem} {v : Int32} {M1 : Mem} (h : b_X11_isHad n a0 x1 x2 x3 M = some (v, M1)) : AE yX11_isHad cX11_isHad 5 (some .boolean) al n X [.ref a0, .int x1, .int x2, .int x3] M (some (.int v)) M1 := by
  refine AM.of false (by decide +kernel) (by intro h; cases h) (Nat.le_of_ble_eq_true rfl) ?_
  refine lp_snd (P := fun s r => PW_X11_isHad X al n (fun v M2 => v = (some (.int r.1)) ∧ M2 = r.2) s.1 s.2.1 s.2.2) ?_ h
  clear h
  rintro ⟨c, l, M⟩ r h
  unfold st_X11_isHad at h
  rcases ite_p h with ⟨e, h⟩ | ⟨e, h⟩
  · replace e : c = 0 := e
    subst e
    obtain ⟨a0, tt0, e, h⟩ := vR_p id h
    replace e : l = _ := e
    subst e
    obtain ⟨x1, tt1, e, h⟩ := vI_p id h
    replace e : tt0 = _ := e
    subst e
    obtain ⟨x2, tt2, e, h⟩ := vI_p id h
    replace e : tt1 = _ := e
    subst e
    obtain ⟨x3, tt3, e, h⟩ := vI_p id h
    replace e : tt2 = _ := e
    subst e
    obtain ⟨e, h⟩ := vE_p id h
    replace e : tt3 = [] := e
    subst e
    exact w_X11_isHad_0 (J := fun c l M => PW_X11_isHad X al n (fun v M2 => v = (some (.int r.1)) ∧ M2 = r.2) c l M) (R := fun v M => (v, M) = r) (fun _ _ _ h => h) (fun v M h => by cases h; exact ⟨rfl, rfl⟩) ((n_X11_isHad_0 (lpP (fun (s : Sg) (r : Int32 × Mem) => PW_X11_isHad X al n (fun v M2 => v = (some (.int r.1)) ∧ M2 = r.2) s.1 s.2.1 s.2.2) r) (fun c l M => some (.inl (c, l, M))) (fun v M => some (.inr (v, M))) none n a0 x1 x2 x3 M).mp h)
  rcases ite_p h with ⟨e, h⟩ | ⟨e, h⟩
  · replace e : c = 3 := e
    subst e
    obtain ⟨a0, tt0, e, h⟩ := vR_p id h
    replace e : l = _ := e
    subst e
    obtain ⟨x2, tt1, e, h⟩ := vI_p id h
    replace e : tt0 = _ := e
    subst e
    obtain ⟨x3, tt2, e, h⟩ := vI_p id h
    replace e : tt1 = _ := e
    subst e
    obtain ⟨x4, tt3, e, h⟩ := vI_p id h
    replace e : tt2 = _ := e
    subst e
    obtain ⟨e, h⟩ := vE_p id h
    replace e : tt3 = [] := e
    subst e
    exact w_X11_isHad_3 (J := fun c l M => PW_X11_isHad X al n (fun v M2 => v = (some (.int r.1)) ∧ M2 = r.2) c l M) (R := fun v M => (v, M) = r) (fun _ _ _ h => h) (fun v M h => by cases h; exact ⟨rfl, rfl⟩) ((n_X11_isHad_3 (lpP (fun (s : Sg) (r : Int32 × Mem) => PW_X11_isHad X al n (fun v M2 => v = (some (.int r.1)) ∧ M2 = r.2) s.1 s.2.1 s.2.2) r) (fun c l M => some (.inl (c, l, M))) (fun v M => some (.inr (v, M))) none n a0 x2 x3 x4 M).mp h)
  · exact h.elim

noncomputable abbrev f_X11_isHad := b_X11_isHad
theorem s_X11_isHad {X : Nat × (Nat → Int32)} {al : Bool} {n : Nat} {a0 : Nat} {x1 : Int32} {x2 : Int32} {x3 : Int32} {M : Mem} {v : Int32} {M1 : Mem} (h : f_X11_isHad n a0 x1 x2 x3 M = some (v, M1)) : AE yX11_isHad cX11_isHad 5 (some .boolean) al n X [.ref a0, .int x1, .int x2, .int x3] M (some (.int v)) M1 := sb_X11_isHad h
set_option maxHeartbeats 4000000 in
set_option maxRecDepth 100000 in
noncomputable def T_X11_withHad_0.{u} {α : Sort u} (R : Int32 → Mem → α) (N : α) (n : Nat) (a0 : Nat) (x1 : Int32) (x2 : Int32) (x3 : Int32) (M : Mem) : α := gd (fO M a0 11) N (bnd2 (cal n (fun n => f_X11_isHad n a0 x1 x2 x3 M)) N (fun v3 M4 => if v3 = 0 then gd (fO M4 a0 11) N (bnd (M4.2.2.2.2 a0 60) N (fun r11 => gd (fA M4 r11 1 x2) N (R (x2 + 1) (wI M4 r11 (x2.toNatClampNeg) x3)))) else R x2 M4))
set_option maxHeartbeats 4000000 in
set_option maxRecDepth 100000 in
theorem n_X11_withHad_0.{u, v} {α : Sort u} {β : Sort v} (h : α → β) (R : Int32 → Mem → α) (N : α) (n : Nat) (a0 : Nat) (x1 : Int32) (x2 : Int32) (x3 : Int32) (M : Mem) : h (T_X11_withHad_0 R N n a0 x1 x2 x3 M) = T_X11_withHad_0 (fun v M => h (R v M)) (h N) n a0 x1 x2 x3 M := by
  simp only [T_X11_withHad_0, nat_ite h, nat_gd h, nat_bnd h, nat_bnd2 h]
set_option maxHeartbeats 4000000 in
set_option maxRecDepth 100000 in
theorem w_X11_withHad_0 {X : Nat × (Nat → Int32)} {al : Bool} {n : Nat} {Q : Option Value → Mem → Prop} {R : Int32 → Mem → Prop} (hR : ∀ v M, R v M → Q (some (.int v)) M) {a0 : Nat} {x1 : Int32} {x2 : Int32} {x3 : Int32} {M : Mem} (h : T_X11_withHad_0 R False n a0 x1 x2 x3 M) : AW X (RX11, cX11_withHad, 4, (some .int), false, al, n) 0 0 0 [(0, .ref a0), (1, .int x1), (2, .int x2), (3, .int x3)] [] M Q := by
  unfold T_X11_withHad_0 at h
  refine a_aload_n dX11_withHad_0 rfl rfl ?_
  refine a_iload_n dX11_withHad_1 rfl rfl ?_
  refine a_iload_n dX11_withHad_2 rfl rfl ?_
  refine a_iload_n dX11_withHad_3 rfl rfl ?_
  obtain ⟨⟨ga1, gs2⟩, h⟩ := gd_t h
  obtain ⟨v3, M4, e5, h⟩ := bnd2_t h
  obtain ⟨n6, en7, e5⟩ := cal_t e5
  refine e_callV (As := [.int x1, .int x2, .int x3]) (st := []) (a := a0) (ci := 11) false dX11_withHad_4 mw_X11_isHad (Or.inl ⟨rfl, ml_X11_438⟩) im_X11_isHad se_X11_isHad (by decide) ga1 gs2 rfl (Nat.le_of_ble_eq_true rfl) en7 (s_X11_isHad e5) ?_
  refine a_if_eq 12 dX11_withHad_7 (by decide) (fun c8 => ?_) (fun c8 => ?_)
  · replace h := ite_t c8 h
    refine a_aload_n dX11_withHad_12 rfl rfl ?_
    obtain ⟨⟨ga9, gs10⟩, h⟩ := gd_t h
    obtain ⟨r11, e12, h⟩ := bnd_t h
    refine a_get (v := .ref r11) dX11_withHad_13 fl_11_124 ga9 gs10 (gvR e12 rfl) ?_
    refine a_iload_n dX11_withHad_16 rfl rfl ?_
    refine a_iload_n dX11_withHad_17 rfl rfl ?_
    obtain ⟨⟨ga13, gn14, gs15, gi16⟩, h⟩ := gd_t h
    refine a_iastore dX11_withHad_18 ga13 gs15 gi16 ?_
    refine a_iload_n dX11_withHad_19 rfl rfl ?_
    refine a_iconst (v := 1) dX11_withHad_20 (by decide) ?_
    refine a_iadd dX11_withHad_21 ?_
    exact a_iret dX11_withHad_22 rfl (hR _ _ h)
  · replace h := ite_f c8 h
    refine a_iload_n dX11_withHad_10 rfl rfl ?_
    exact a_iret dX11_withHad_11 rfl (hR _ _ h)
noncomputable def b_X11_withHad (n : Nat) (a0 : Nat) (x1 : Int32) (x2 : Int32) (x3 : Int32) (M : Mem) : Option (Int32 × Mem) := T_X11_withHad_0 (fun v M => some (v, M)) none n a0 x1 x2 x3 M
set_option maxHeartbeats 4000000 in
set_option maxRecDepth 100000 in
theorem sb_X11_withHad {X : Nat × (Nat → Int32)} {al : Bool} {n : Nat} {a0 : Nat} {x1 : Int32} {x2 : Int32} {x3 : Int32} {M : Mem} {v : Int32} {M1 : Mem} (h : b_X11_withHad n a0 x1 x2 x3 M = some (v, M1)) : AE yX11_withHad cX11_withHad 4 (some .int) al n X [.ref a0, .int x1, .int x2, .int x3] M (some (.int v)) M1 := by
  refine AM.of false (by decide +kernel) (by intro h; cases h) (Nat.le_of_ble_eq_true rfl) ?_
  have h2 : T_X11_withHad_0 (fun v2 M2 => some (v2, M2) = some (v, M1)) (none = some (v, M1)) n a0 x1 x2 x3 M := (n_X11_withHad_0 (fun o => o = some (v, M1)) (fun v M => some (v, M)) none n a0 x1 x2 x3 M).mp h
  have h3 : ((none : Option (Int32 × Mem)) = some (v, M1)) = False := eq_false (by intro q; cases q)
  rw [h3] at h2
  exact w_X11_withHad_0 (fun v2 M2 h => by cases h; exact ⟨rfl, rfl⟩) h2

noncomputable abbrev f_X11_withHad := b_X11_withHad
theorem s_X11_withHad {X : Nat × (Nat → Int32)} {al : Bool} {n : Nat} {a0 : Nat} {x1 : Int32} {x2 : Int32} {x3 : Int32} {M : Mem} {v : Int32} {M1 : Mem} (h : f_X11_withHad n a0 x1 x2 x3 M = some (v, M1)) : AE yX11_withHad cX11_withHad 4 (some .int) al n X [.ref a0, .int x1, .int x2, .int x3] M (some (.int v)) M1 := sb_X11_withHad h
def ix_X11_copiesHad (c : Nat) : List Nat := if c = 0 then [0, 1, 2, 3] else if c = 6 then [0, 2, 3, 4, 5] else []
def PW_X11_copiesHad (X : Nat × (Nat → Int32)) (al : Bool) (n : Nat) (Q : Option Value → Mem → Prop) (c : Nat) (l : List Value) (M : Mem) : Prop := AW X (RX11, cX11_copiesHad, 6, (some .int), false, al, n) 0 0 c (List.zip (ix_X11_copiesHad c) l) (l.drop (ix_X11_copiesHad c).length) M Q
set_option maxHeartbeats 4000000 in
set_option maxRecDepth 100000 in
noncomputable def T_X11_copiesHad_0.{u} {α : Sort u} (J : Nat → List Value → Mem → α) (R : Int32 → Mem → α) (N : α) (n : Nat) (a0 : Nat) (x1 : Int32) (x2 : Int32) (x3 : Int32) (M : Mem) : α := J 6 [.ref a0, .int x2, .int x3, .int x2, .int x1] M
set_option maxHeartbeats 4000000 in
set_option maxRecDepth 100000 in
theorem n_X11_copiesHad_0.{u, v} {α : Sort u} {β : Sort v} (h : α → β) (J : Nat → List Value → Mem → α) (R : Int32 → Mem → α) (N : α) (n : Nat) (a0 : Nat) (x1 : Int32) (x2 : Int32) (x3 : Int32) (M : Mem) : h (T_X11_copiesHad_0 J R N n a0 x1 x2 x3 M) = T_X11_copiesHad_0 (fun c l M => h (J c l M)) (fun v M => h (R v M)) (h N) n a0 x1 x2 x3 M := by
  simp only [T_X11_copiesHad_0, nat_ite h, nat_gd h, nat_bnd h, nat_bnd2 h]
set_option maxHeartbeats 4000000 in
set_option maxRecDepth 100000 in
theorem w_X11_copiesHad_0 {X : Nat × (Nat → Int32)} {al : Bool} {n : Nat} {Q : Option Value → Mem → Prop} {J : Nat → List Value → Mem → Prop} (hJ : ∀ c l M, J c l M → PW_X11_copiesHad X al n Q c l M) {R : Int32 → Mem → Prop} (hR : ∀ v M, R v M → Q (some (.int v)) M) {a0 : Nat} {x1 : Int32} {x2 : Int32} {x3 : Int32} {M : Mem} (h : T_X11_copiesHad_0 J R False n a0 x1 x2 x3 M) : AW X (RX11, cX11_copiesHad, 6, (some .int), false, al, n) 0 0 0 [(0, .ref a0), (1, .int x1), (2, .int x2), (3, .int x3)] [] M Q := by
  unfold T_X11_copiesHad_0 at h
  refine a_iload_n dX11_copiesHad_0 rfl rfl ?_
  refine a_istore dX11_copiesHad_1 (Nat.le_of_ble_eq_true rfl) (lv2 := [(4, .int x2), (0, .ref a0), (1, .int x1), (2, .int x2), (3, .int x3)]) rfl ?_
  refine a_iload_n dX11_copiesHad_3 rfl rfl ?_
  refine a_istore dX11_copiesHad_4 (Nat.le_of_ble_eq_true rfl) (lv2 := [(5, .int x1), (4, .int x2), (0, .ref a0), (1, .int x1), (2, .int x2), (3, .int x3)]) rfl ?_
  exact a_lv (lv2 := [(0, .ref a0), (2, .int x2), (3, .int x3), (4, .int x2), (5, .int x1)]) (fa_cons rfl (fa_cons rfl (fa_cons rfl (fa_cons rfl (fa_cons rfl fa_nil))))) (hJ _ _ _ h)
set_option maxHeartbeats 4000000 in
set_option maxRecDepth 100000 in
noncomputable def T_X11_copiesHad_6.{u} {α : Sort u} (J : Nat → List Value → Mem → α) (R : Int32 → Mem → α) (N : α) (n : Nat) (a0 : Nat) (x2 : Int32) (x3 : Int32) (x4 : Int32) (x5 : Int32) (M : Mem) : α := if x2 ≤ x5 then R x4 M else if x5 = x3 then J 6 [.ref a0, .int x2, .int x3, .int x4, .int (x5 + 1)] M else gd (fO M a0 11) N (bnd (M.2.2.2.2 a0 60) N (fun r5 => gd (fA M r5 1 x5) N (gd (fA M r5 1 x4) N (J 6 [.ref a0, .int x2, .int x3, .int (x4 + 1), .int (x5 + 1)] (wI M r5 (x4.toNatClampNeg) (M.2.2.1 r5 (x5.toNatClampNeg)))))))
set_option maxHeartbeats 4000000 in
set_option maxRecDepth 100000 in
theorem n_X11_copiesHad_6.{u, v} {α : Sort u} {β : Sort v} (h : α → β) (J : Nat → List Value → Mem → α) (R : Int32 → Mem → α) (N : α) (n : Nat) (a0 : Nat) (x2 : Int32) (x3 : Int32) (x4 : Int32) (x5 : Int32) (M : Mem) : h (T_X11_copiesHad_6 J R N n a0 x2 x3 x4 x5 M) = T_X11_copiesHad_6 (fun c l M => h (J c l M)) (fun v M => h (R v M)) (h N) n a0 x2 x3 x4 x5 M := by
  simp only [T_X11_copiesHad_6, nat_ite h, nat_gd h, nat_bnd h, nat_bnd2 h]
set_option maxHeartbeats 4000000 in
set_option maxRecDepth 100000 in
theorem w_X11_copiesHad_6 {X : Nat × (Nat → Int32)} {al : Bool} {n : Nat} {Q : Option Value → Mem → Prop} {J : Nat → List Value → Mem → Prop} (hJ : ∀ c l M, J c l M → PW_X11_copiesHad X al n Q c l M) {R : Int32 → Mem → Prop} (hR : ∀ v M, R v M → Q (some (.int v)) M) {a0 : Nat} {x2 : Int32} {x3 : Int32} {x4 : Int32} {x5 : Int32} {M : Mem} (h : T_X11_copiesHad_6 J R False n a0 x2 x3 x4 x5 M) : AW X (RX11, cX11_copiesHad, 6, (some .int), false, al, n) 0 0 6 [(0, .ref a0), (2, .int x2), (3, .int x3), (4, .int x4), (5, .int x5)] [] M Q := by
  unfold T_X11_copiesHad_6 at h
  refine a_iload dX11_copiesHad_6 rfl ?_
  refine a_iload_n dX11_copiesHad_8 rfl rfl ?_
  refine a_icmp_ge 44 dX11_copiesHad_9 (by decide) (fun c1 => ?_) (fun c1 => ?_)
  · replace h := ite_t c1 h
    refine a_iload dX11_copiesHad_44 rfl ?_
    exact a_iret dX11_copiesHad_46 rfl (hR _ _ h)
  · replace h := ite_f c1 h
    refine a_iload dX11_copiesHad_12 rfl ?_
    refine a_iload_n dX11_copiesHad_14 rfl rfl ?_
    refine a_icmp_ne 21 dX11_copiesHad_15 (by decide) (fun c2 => ?_) (fun c2 => ?_)
    · replace h := ite_f c2 h
      refine a_aload_n dX11_copiesHad_21 rfl rfl ?_
      obtain ⟨⟨ga3, gs4⟩, h⟩ := gd_t h
      obtain ⟨r5, e6, h⟩ := bnd_t h
      refine a_get (v := .ref r5) dX11_copiesHad_22 fl_11_124 ga3 gs4 (gvR e6 rfl) ?_
      refine a_iload dX11_copiesHad_25 rfl ?_
      refine a_aload_n dX11_copiesHad_27 rfl rfl ?_
      refine a_get (v := .ref r5) dX11_copiesHad_28 fl_11_124 ga3 gs4 (gvR e6 rfl) ?_
      refine a_iload dX11_copiesHad_31 rfl ?_
      obtain ⟨⟨ga7, gn8, gs9, gi10⟩, h⟩ := gd_t h
      refine a_iaload dX11_copiesHad_33 ga7 gs9 gi10 ?_
      obtain ⟨⟨ga11, gn12, gs13, gi14⟩, h⟩ := gd_t h
      refine a_iastore dX11_copiesHad_34 ga11 gs13 gi14 ?_
      refine a_iinc (v := (x4 + 1)) dX11_copiesHad_35 rfl (by first | rfl | decide) (Nat.le_of_ble_eq_true rfl) (lv2 := [(4, .int (x4 + 1)), (0, .ref a0), (2, .int x2), (3, .int x3), (5, .int x5)]) rfl ?_
      refine a_iinc (v := (x5 + 1)) dX11_copiesHad_38 rfl (by first | rfl | decide) (Nat.le_of_ble_eq_true rfl) (lv2 := [(5, .int (x5 + 1)), (4, .int (x4 + 1)), (0, .ref a0), (2, .int x2), (3, .int x3)]) rfl ?_
      refine a_goto 6 dX11_copiesHad_41 (by decide) ?_
      exact a_lv (lv2 := [(0, .ref a0), (2, .int x2), (3, .int x3), (4, .int (x4 + 1)), (5, .int (x5 + 1))]) (fa_cons rfl (fa_cons rfl (fa_cons rfl (fa_cons rfl (fa_cons rfl fa_nil))))) (hJ _ _ _ h)
    · replace h := ite_t c2 h
      refine a_goto 38 dX11_copiesHad_18 (by decide) ?_
      refine a_iinc (v := (x5 + 1)) dX11_copiesHad_38 rfl (by first | rfl | decide) (Nat.le_of_ble_eq_true rfl) (lv2 := [(5, .int (x5 + 1)), (0, .ref a0), (2, .int x2), (3, .int x3), (4, .int x4)]) rfl ?_
      refine a_goto 6 dX11_copiesHad_41 (by decide) ?_
      exact a_lv (lv2 := [(0, .ref a0), (2, .int x2), (3, .int x3), (4, .int x4), (5, .int (x5 + 1))]) (fa_cons rfl (fa_cons rfl (fa_cons rfl (fa_cons rfl (fa_cons rfl fa_nil))))) (hJ _ _ _ h)
set_option maxHeartbeats 4000000 in
set_option maxRecDepth 100000 in
noncomputable def st_X11_copiesHad (n : Nat) (s : Sg) : Option (Sg ⊕ (Int32 × Mem)) := if s.1 = 0 then vR s.2.1 none (fun a0 t => vI t none (fun x1 t => vI t none (fun x2 t => vI t none (fun x3 t => vE t none (T_X11_copiesHad_0 (fun c l M => some (.inl (c, l, M))) (fun v M => some (.inr (v, M))) none n a0 x1 x2 x3 s.2.2))))) else if s.1 = 6 then vR s.2.1 none (fun a0 t => vI t none (fun x2 t => vI t none (fun x3 t => vI t none (fun x4 t => vI t none (fun x5 t => vE t none (T_X11_copiesHad_6 (fun c l M => some (.inl (c, l, M))) (fun v M => some (.inr (v, M))) none n a0 x2 x3 x4 x5 s.2.2)))))) else none
noncomputable abbrev g_X11_copiesHad_0 (n : Nat) (a0 : Nat) (x1 : Int32) (x2 : Int32) (x3 : Int32) (M : Mem) : Option (Int32 × Mem) := lp (st_X11_copiesHad n) (0, [.ref a0, .int x1, .int x2, .int x3], M)
set_option maxHeartbeats 4000000 in
set_option maxRecDepth 100000 in
theorem ge_X11_copiesHad_0 (n : Nat) (a0 : Nat) (x1 : Int32) (x2 : Int32) (x3 : Int32) (M : Mem) : g_X11_copiesHad_0 n a0 x1 x2 x3 M = T_X11_copiesHad_0 (fun c l M => lp (st_X11_copiesHad n) (c, l, M)) (fun v M => some (v, M)) none n a0 x1 x2 x3 M := (lp_eq _ _).trans (n_X11_copiesHad_0 (lpK (st_X11_copiesHad n)) (fun c l M => some (.inl (c, l, M))) (fun v M => some (.inr (v, M))) none n a0 x1 x2 x3 M)
noncomputable abbrev g_X11_copiesHad_6 (n : Nat) (a0 : Nat) (x2 : Int32) (x3 : Int32) (x4 : Int32) (x5 : Int32) (M : Mem) : Option (Int32 × Mem) := lp (st_X11_copiesHad n) (6, [.ref a0, .int x2, .int x3, .int x4, .int x5], M)
set_option maxHeartbeats 4000000 in
set_option maxRecDepth 100000 in
theorem ge_X11_copiesHad_6 (n : Nat) (a0 : Nat) (x2 : Int32) (x3 : Int32) (x4 : Int32) (x5 : Int32) (M : Mem) : g_X11_copiesHad_6 n a0 x2 x3 x4 x5 M = T_X11_copiesHad_6 (fun c l M => lp (st_X11_copiesHad n) (c, l, M)) (fun v M => some (v, M)) none n a0 x2 x3 x4 x5 M := (lp_eq _ _).trans (n_X11_copiesHad_6 (lpK (st_X11_copiesHad n)) (fun c l M => some (.inl (c, l, M))) (fun v M => some (.inr (v, M))) none n a0 x2 x3 x4 x5 M)
noncomputable def b_X11_copiesHad (n : Nat) (a0 : Nat) (x1 : Int32) (x2 : Int32) (x3 : Int32) (M : Mem) : Option (Int32 × Mem) := g_X11_copiesHad_0 n a0 x1 x2 x3 M
set_option maxHeartbeats 4000000 in
set_option maxRecDepth 100000 in
theorem sb_X11_copiesHad {X : Nat × (Nat → Int32)} {al : Bool} {n : Nat} {a0 : Nat} {x1 : Int32} {x2 : Int32} {x3 : Int32} {M : Mem} {v : Int32} {M1 : Mem} (h : b_X11_copiesHad n a0 x1 x2 x3 M = some (v, M1)) : AE yX11_copiesHad cX11_copiesHad 6 (some .int) al n X [.ref a0, .int x1, .int x2, .int x3] M (some (.int v)) M1 := by
  refine AM.of false (by decide +kernel) (by intro h; cases h) (Nat.le_of_ble_eq_true rfl) ?_
  refine lp_snd (P := fun s r => PW_X11_copiesHad X al n (fun v M2 => v = (some (.int r.1)) ∧ M2 = r.2) s.1 s.2.1 s.2.2) ?_ h
  clear h
  rintro ⟨c, l, M⟩ r h
  unfold st_X11_copiesHad at h
  rcases ite_p h with ⟨e, h⟩ | ⟨e, h⟩
  · replace e : c = 0 := e
    subst e
    obtain ⟨a0, tt0, e, h⟩ := vR_p id h
    replace e : l = _ := e
    subst e
    obtain ⟨x1, tt1, e, h⟩ := vI_p id h
    replace e : tt0 = _ := e
    subst e
    obtain ⟨x2, tt2, e, h⟩ := vI_p id h
    replace e : tt1 = _ := e
    subst e
    obtain ⟨x3, tt3, e, h⟩ := vI_p id h
    replace e : tt2 = _ := e
    subst e
    obtain ⟨e, h⟩ := vE_p id h
    replace e : tt3 = [] := e
    subst e
    exact w_X11_copiesHad_0 (J := fun c l M => PW_X11_copiesHad X al n (fun v M2 => v = (some (.int r.1)) ∧ M2 = r.2) c l M) (R := fun v M => (v, M) = r) (fun _ _ _ h => h) (fun v M h => by cases h; exact ⟨rfl, rfl⟩) ((n_X11_copiesHad_0 (lpP (fun (s : Sg) (r : Int32 × Mem) => PW_X11_copiesHad X al n (fun v M2 => v = (some (.int r.1)) ∧ M2 = r.2) s.1 s.2.1 s.2.2) r) (fun c l M => some (.inl (c, l, M))) (fun v M => some (.inr (v, M))) none n a0 x1 x2 x3 M).mp h)
  rcases ite_p h with ⟨e, h⟩ | ⟨e, h⟩
  · replace e : c = 6 := e
    subst e
    obtain ⟨a0, tt0, e, h⟩ := vR_p id h
    replace e : l = _ := e
    subst e
    obtain ⟨x2, tt1, e, h⟩ := vI_p id h
    replace e : tt0 = _ := e
    subst e
    obtain ⟨x3, tt2, e, h⟩ := vI_p id h
    replace e : tt1 = _ := e
    subst e
    obtain ⟨x4, tt3, e, h⟩ := vI_p id h
    replace e : tt2 = _ := e
    subst e
    obtain ⟨x5, tt4, e, h⟩ := vI_p id h
    replace e : tt3 = _ := e
    subst e
    obtain ⟨e, h⟩ := vE_p id h
    replace e : tt4 = [] := e
    subst e
    exact w_X11_copiesHad_6 (J := fun c l M => PW_X11_copiesHad X al n (fun v M2 => v = (some (.int r.1)) ∧ M2 = r.2) c l M) (R := fun v M => (v, M) = r) (fun _ _ _ h => h) (fun v M h => by cases h; exact ⟨rfl, rfl⟩) ((n_X11_copiesHad_6 (lpP (fun (s : Sg) (r : Int32 × Mem) => PW_X11_copiesHad X al n (fun v M2 => v = (some (.int r.1)) ∧ M2 = r.2) s.1 s.2.1 s.2.2) r) (fun c l M => some (.inl (c, l, M))) (fun v M => some (.inr (v, M))) none n a0 x2 x3 x4 x5 M).mp h)
  · exact h.elim

noncomputable abbrev f_X11_copiesHad := b_X11_copiesHad
theorem s_X11_copiesHad {X : Nat × (Nat → Int32)} {al : Bool} {n : Nat} {a0 : Nat} {x1 : Int32} {x2 : Int32} {x3 : Int32} {M : Mem} {v : Int32} {M1 : Mem} (h : f_X11_copiesHad n a0 x1 x2 x3 M = some (v, M1)) : AE yX11_copiesHad cX11_copiesHad 6 (some .int) al n X [.ref a0, .int x1, .int x2, .int x3] M (some (.int v)) M1 := sb_X11_copiesHad h
