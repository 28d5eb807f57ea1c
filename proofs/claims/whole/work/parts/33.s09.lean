/-! METHODS AS FUNCTIONS, written by wip/gen/shallow.py -/
def ix_X6_readFirstWord (c : Nat) : List Nat := if c = 0 then [0, 1, 2] else if c = 44 then [0, 1, 2, 3, 4] else if c = 62 then [0, 2, 3, 4] else if c = 86 then [0, 2, 3, 4, 5] else if c = 136 then [0, 3, 4, 5] else []
def PW_X6_readFirstWord (X : Nat × (Nat → Int32)) (al : Bool) (n : Nat) (Q : Option Value → Mem → Prop) (c : Nat) (l : List Value) (M : Mem) : Prop := AW X (RX6, cX6_readFirstWord, 7, (some .boolean), false, al, n) 0 0 c (List.zip (ix_X6_readFirstWord c) l) (l.drop (ix_X6_readFirstWord c).length) M Q
set_option maxHeartbeats 4000000 in
set_option maxRecDepth 100000 in
noncomputable def T_X6_readFirstWord_0.{u} {α : Sort u} (J : Nat → List Value → Mem → α) (R : Int32 → Mem → α) (N : α) (n : Nat) (a0 : Nat) (a1 : Nat) (a2 : Nat) (M : Mem) : α := gd (fO M a0 6) N (bnd2 (cal n (fun n => f_X6_advance n a0 M)) N (fun _ M3 => gd (fO M3 a0 6) N (bnd2 (cal n (fun n => f_X6_atName n a0 M3)) N (fun v9 M10 => if v9 = 0 then if ((M3.2.2.1 a0 13) - 11) < 2 then gd (fO M10 a0 6) N (bnd2 (cal n (fun n => f_X6_fail n a0 1 (M10.2.2.1 a0 12) M10)) N (fun v18 M19 => gd (narrow .boolean (.int v18) = .int v18) N (R v18 M19))) else if ((M3.2.2.1 a0 13) - 11) ≤ 10 then J 44 [.ref a0, .ref a1, .ref a2, .int ((M3.2.2.1 a0 13) - 11), .int v9] M10 else gd (fO M10 a0 6) N (bnd2 (cal n (fun n => f_X6_fail n a0 1 (M10.2.2.1 a0 12) M10)) N (fun v27 M28 => gd (narrow .boolean (.int v27) = .int v27) N (R v27 M28))) else J 44 [.ref a0, .ref a1, .ref a2, .int ((M3.2.2.1 a0 13) - 11), .int v9] M10))))
set_option maxHeartbeats 4000000 in
set_option maxRecDepth 100000 in
theorem n_X6_readFirstWord_0.{u, v} {α : Sort u} {β : Sort v} (h : α → β) (J : Nat → List Value → Mem → α) (R : Int32 → Mem → α) (N : α) (n : Nat) (a0 : Nat) (a1 : Nat) (a2 : Nat) (M : Mem) : h (T_X6_readFirstWord_0 J R N n a0 a1 a2 M) = T_X6_readFirstWord_0 (fun c l M => h (J c l M)) (fun v M => h (R v M)) (h N) n a0 a1 a2 M := by
  simp only [T_X6_readFirstWord_0, nat_ite h, nat_gd h, nat_bnd h, nat_bnd2 h]
set_option maxHeartbeats 4000000 in
set_option maxRecDepth 100000 in
theorem w_X6_readFirstWord_0 {X : Nat × (Nat → Int32)} {al : Bool} {n : Nat} {Q : Option Value → Mem → Prop} {J : Nat → List Value → Mem → Prop} (hJ : ∀ c l M, J c l M → PW_X6_readFirstWord X al n Q c l M) {R : Int32 → Mem → Prop} (hR : ∀ v M, R v M → Q (some (.int v)) M) {a0 : Nat} {a1 : Nat} {a2 : Nat} {M : Mem} (h : T_X6_readFirstWord_0 J R False n a0 a1 a2 M) : AW X (RX6, cX6_readFirstWord, 7, (some .boolean), false, al, n) 0 0 0 [(0, .ref a0), (1, .ref a1), (2, .ref a2)] [] M Q := by
  unfold T_X6_readFirstWord_0 at h
  refine a_aload_n dX6_readFirstWord_0 rfl rfl ?_
  obtain ⟨⟨ga1, gs2⟩, h⟩ := gd_t h
  obtain ⟨_, M3, e4, h⟩ := bnd2_t h
  obtain ⟨n5, en6, e4⟩ := cal_t e4
  refine e_callV (As := []) (st := []) (a := a0) (ci := 6) false dX6_readFirstWord_1 mw_X6_advance (Or.inl ⟨rfl, ml_X6_97⟩) im_X6_advance se_X6_advance (by decide) ga1 gs2 rfl (Nat.le_of_ble_eq_true rfl) en6 (s_X6_advance e4) ?_
  refine a_aload_n dX6_readFirstWord_4 rfl rfl ?_
  obtain ⟨⟨ga7, gs8⟩, h⟩ := gd_t h
  refine a_get (v := .int (M3.2.2.1 a0 13)) dX6_readFirstWord_5 fl_6_75 ga7 gs8 rfl ?_
  refine a_bipush (v := 11) dX6_readFirstWord_8 (by decide) ?_
  refine a_isub dX6_readFirstWord_10 ?_
  refine a_istore_n dX6_readFirstWord_11 rfl (Nat.le_of_ble_eq_true rfl) (lv2 := [(3, .int ((M3.2.2.1 a0 13) - 11)), (0, .ref a0), (1, .ref a1), (2, .ref a2)]) rfl ?_
  refine a_aload_n dX6_readFirstWord_12 rfl rfl ?_
  obtain ⟨v9, M10, e11, h⟩ := bnd2_t h
  obtain ⟨n12, en13, e11⟩ := cal_t e11
  refine e_callV (As := []) (st := []) (a := a0) (ci := 6) false dX6_readFirstWord_13 mw_X6_atName (Or.inl ⟨rfl, ml_X6_104⟩) im_X6_atName se_X6_atName (by decide) ga7 gs8 rfl (Nat.le_of_ble_eq_true rfl) en13 (s_X6_atName e11) ?_
  refine a_istore dX6_readFirstWord_16 (Nat.le_of_ble_eq_true rfl) (lv2 := [(4, .int v9), (3, .int ((M3.2.2.1 a0 13) - 11)), (0, .ref a0), (1, .ref a1), (2, .ref a2)]) rfl ?_
  refine a_iload dX6_readFirstWord_18 rfl ?_
  refine a_if_ne 44 dX6_readFirstWord_20 (by decide) (fun c14 => ?_) (fun c14 => ?_)
  · replace h := ite_f c14 h
    exact a_lv (lv2 := [(0, .ref a0), (1, .ref a1), (2, .ref a2), (3, .int ((M3.2.2.1 a0 13) - 11)), (4, .int v9)]) (fa_cons rfl (fa_cons rfl (fa_cons rfl (fa_cons rfl (fa_cons rfl fa_nil))))) (hJ _ _ _ h)
  · replace h := ite_t c14 h
    refine a_iload_n dX6_readFirstWord_23 rfl rfl ?_
    refine a_iconst (v := 2) dX6_readFirstWord_24 (by decide) ?_
    refine a_icmp_lt 34 dX6_readFirstWord_25 (by decide) (fun c15 => ?_) (fun c15 => ?_)
    · replace h := ite_t c15 h
      refine a_aload_n dX6_readFirstWord_34 rfl rfl ?_
      refine a_iconst (v := 1) dX6_readFirstWord_35 (by decide) ?_
      refine a_aload_n dX6_readFirstWord_36 rfl rfl ?_
      obtain ⟨⟨ga16, gs17⟩, h⟩ := gd_t h
      refine a_get (v := .int (M10.2.2.1 a0 12)) dX6_readFirstWord_37 fl_6_68 ga16 gs17 rfl ?_
      obtain ⟨v18, M19, e20, h⟩ := bnd2_t h
      obtain ⟨n21, en22, e20⟩ := cal_t e20
      refine e_callV (As := [.int 1, .int (M10.2.2.1 a0 12)]) (st := []) (a := a0) (ci := 6) false dX6_readFirstWord_40 mw_X6_fail (Or.inl ⟨rfl, ml_X6_107⟩) im_X6_fail se_X6_fail (by decide) ga16 gs17 rfl (Nat.le_of_ble_eq_true rfl) en22 (s_X6_fail e20) ?_
      obtain ⟨gb23, h⟩ := gd_t h
      exact a_zret dX6_readFirstWord_43 rfl gb23 (hR _ _ h)
    · replace h := ite_f c15 h
      refine a_iload_n dX6_readFirstWord_28 rfl rfl ?_
      refine a_bipush (v := 10) dX6_readFirstWord_29 (by decide) ?_
      refine a_icmp_le 44 dX6_readFirstWord_31 (by decide) (fun c24 => ?_) (fun c24 => ?_)
      · replace h := ite_t c24 h
        exact a_lv (lv2 := [(0, .ref a0), (1, .ref a1), (2, .ref a2), (3, .int ((M3.2.2.1 a0 13) - 11)), (4, .int v9)]) (fa_cons rfl (fa_cons rfl (fa_cons rfl (fa_cons rfl (fa_cons rfl fa_nil))))) (hJ _ _ _ h)
      · replace h := ite_f c24 h
        refine a_aload_n dX6_readFirstWord_34 rfl rfl ?_
        refine a_iconst (v := 1) dX6_readFirstWord_35 (by decide) ?_
        refine a_aload_n dX6_readFirstWord_36 rfl rfl ?_
        obtain ⟨⟨ga25, gs26⟩, h⟩ := gd_t h
        refine a_get (v := .int (M10.2.2.1 a0 12)) dX6_readFirstWord_37 fl_6_68 ga25 gs26 rfl ?_
        obtain ⟨v27, M28, e29, h⟩ := bnd2_t h
        obtain ⟨n30, en31, e29⟩ := cal_t e29
        refine e_callV (As := [.int 1, .int (M10.2.2.1 a0 12)]) (st := []) (a := a0) (ci := 6) false dX6_readFirstWord_40 mw_X6_fail (Or.inl ⟨rfl, ml_X6_107⟩) im_X6_fail se_X6_fail (by decide) ga25 gs26 rfl (Nat.le_of_ble_eq_true rfl) en31 (s_X6_fail e29) ?_
        obtain ⟨gb32, h⟩ := gd_t h
        exact a_zret dX6_readFirstWord_43 rfl gb32 (hR _ _ h)
set_option maxHeartbeats 4000000 in
set_option maxRecDepth 100000 in
noncomputable def T_X6_readFirstWord_44.{u} {α : Sort u} (J : Nat → List Value → Mem → α) (R : Int32 → Mem → α) (N : α) (n : Nat) (a0 : Nat) (a1 : Nat) (a2 : Nat) (x3 : Int32) (x4 : Int32) (M : Mem) : α := if x4 = 0 then J 62 [.ref a0, .ref a2, .int x3, .int x4, .int 0] M else gd (fO M a0 6) N (bnd2 (cal n (fun n => f_X6_nameRead n a0 M)) N (fun v4 M5 => gd (fO M5 a0 6) N (bnd2 (cal n (fun n => f_X6_meaning n a0 v4 a1 M5)) N (fun v11 M12 => J 62 [.ref a0, .ref a2, .int x3, .int x4, .int v11] M12))))
set_option maxHeartbeats 4000000 in
set_option maxRecDepth 100000 in
theorem n_X6_readFirstWord_44.{u, v} {α : Sort u} {β : Sort v} (h : α → β) (J : Nat → List Value → Mem → α) (R : Int32 → Mem → α) (N : α) (n : Nat) (a0 : Nat) (a1 : Nat) (a2 : Nat) (x3 : Int32) (x4 : Int32) (M : Mem) : h (T_X6_readFirstWord_44 J R N n a0 a1 a2 x3 x4 M) = T_X6_readFirstWord_44 (fun c l M => h (J c l M)) (fun v M => h (R v M)) (h N) n a0 a1 a2 x3 x4 M := by
  simp only [T_X6_readFirstWord_44, nat_ite h, nat_gd h, nat_bnd h, nat_bnd2 h]
set_option maxHeartbeats 4000000 in
set_option maxRecDepth 100000 in
theorem w_X6_readFirstWord_44 {X : Nat × (Nat → Int32)} {al : Bool} {n : Nat} {Q : Option Value → Mem → Prop} {J : Nat → List Value → Mem → Prop} (hJ : ∀ c l M, J c l M → PW_X6_readFirstWord X al n Q c l M) {R : Int32 → Mem → Prop} (hR : ∀ v M, R v M → Q (some (.int v)) M) {a0 : Nat} {a1 : Nat} {a2 : Nat} {x3 : Int32} {x4 : Int32} {M : Mem} (h : T_X6_readFirstWord_44 J R False n a0 a1 a2 x3 x4 M) : AW X (RX6, cX6_readFirstWord, 7, (some .boolean), false, al, n) 0 0 44 [(0, .ref a0), (1, .ref a1), (2, .ref a2), (3, .int x3), (4, .int x4)] [] M Q := by
  unfold T_X6_readFirstWord_44 at h
  refine a_iload dX6_readFirstWord_44 rfl ?_
  refine a_if_eq 61 dX6_readFirstWord_46 (by decide) (fun c1 => ?_) (fun c1 => ?_)
  · replace h := ite_t c1 h
    refine a_iconst (v := 0) dX6_readFirstWord_61 (by decide) ?_
    exact a_lv (lv2 := [(0, .ref a0), (2, .ref a2), (3, .int x3), (4, .int x4)]) (fa_cons rfl (fa_cons rfl (fa_cons rfl (fa_cons rfl fa_nil)))) (hJ _ _ _ h)
  · replace h := ite_f c1 h
    refine a_aload_n dX6_readFirstWord_49 rfl rfl ?_
    refine a_aload_n dX6_readFirstWord_50 rfl rfl ?_
    obtain ⟨⟨ga2, gs3⟩, h⟩ := gd_t h
    obtain ⟨v4, M5, e6, h⟩ := bnd2_t h
    obtain ⟨n7, en8, e6⟩ := cal_t e6
    refine e_callV (As := []) (st := [.ref a0]) (a := a0) (ci := 6) false dX6_readFirstWord_51 mw_X6_nameRead (Or.inl ⟨rfl, ml_X6_111⟩) im_X6_nameRead se_X6_nameRead (by decide) ga2 gs3 rfl (Nat.le_of_ble_eq_true rfl) en8 (s_X6_nameRead e6) ?_
    refine a_aload_n dX6_readFirstWord_54 rfl rfl ?_
    obtain ⟨⟨ga9, gs10⟩, h⟩ := gd_t h
    obtain ⟨v11, M12, e13, h⟩ := bnd2_t h
    obtain ⟨n14, en15, e13⟩ := cal_t e13
    refine e_callV (As := [.int v4, .ref a1]) (st := []) (a := a0) (ci := 6) false dX6_readFirstWord_55 mw_X6_meaning (Or.inl ⟨rfl, ml_X6_187⟩) im_X6_meaning se_X6_meaning (by decide) ga9 gs10 rfl (Nat.le_of_ble_eq_true rfl) en15 (s_X6_meaning e13) ?_
    refine a_goto 62 dX6_readFirstWord_58 (by decide) ?_
    exact a_lv (lv2 := [(0, .ref a0), (2, .ref a2), (3, .int x3), (4, .int x4)]) (fa_cons rfl (fa_cons rfl (fa_cons rfl (fa_cons rfl fa_nil)))) (hJ _ _ _ h)
set_option maxHeartbeats 4000000 in
set_option maxRecDepth 100000 in
noncomputable def T_X6_readFirstWord_62.{u} {α : Sort u} (J : Nat → List Value → Mem → α) (R : Int32 → Mem → α) (N : α) (n : Nat) (a0 : Nat) (a2 : Nat) (x3 : Int32) (x4 : Int32) (xs0 : Int32) (M : Mem) : α := if x4 = 0 then J 86 [.ref a0, .ref a2, .int x3, .int x4, .int xs0] M else if xs0 = 24 then gd (fO M a0 6) N (bnd2 (cal n (fun n => f_X6_fail n a0 3 (M.2.2.1 a0 12) M)) N (fun v5 M6 => gd (narrow .boolean (.int v5) = .int v5) N (R v5 M6))) else J 86 [.ref a0, .ref a2, .int x3, .int x4, .int xs0] M
set_option maxHeartbeats 4000000 in
set_option maxRecDepth 100000 in
theorem n_X6_readFirstWord_62.{u, v} {α : Sort u} {β : Sort v} (h : α → β) (J : Nat → List Value → Mem → α) (R : Int32 → Mem → α) (N : α) (n : Nat) (a0 : Nat) (a2 : Nat) (x3 : Int32) (x4 : Int32) (xs0 : Int32) (M : Mem) : h (T_X6_readFirstWord_62 J R N n a0 a2 x3 x4 xs0 M) = T_X6_readFirstWord_62 (fun c l M => h (J c l M)) (fun v M => h (R v M)) (h N) n a0 a2 x3 x4 xs0 M := by
  simp only [T_X6_readFirstWord_62, nat_ite h, nat_gd h, nat_bnd h, nat_bnd2 h]
set_option maxHeartbeats 4000000 in
set_option maxRecDepth 100000 in
theorem w_X6_readFirstWord_62 {X : Nat × (Nat → Int32)} {al : Bool} {n : Nat} {Q : Option Value → Mem → Prop} {J : Nat → List Value → Mem → Prop} (hJ : ∀ c l M, J c l M → PW_X6_readFirstWord X al n Q c l M) {R : Int32 → Mem → Prop} (hR : ∀ v M, R v M → Q (some (.int v)) M) {a0 : Nat} {a2 : Nat} {x3 : Int32} {x4 : Int32} {xs0 : Int32} {M : Mem} (h : T_X6_readFirstWord_62 J R False n a0 a2 x3 x4 xs0 M) : AW X (RX6, cX6_readFirstWord, 7, (some .boolean), false, al, n) 0 0 62 [(0, .ref a0), (2, .ref a2), (3, .int x3), (4, .int x4)] [.int xs0] M Q := by
  unfold T_X6_readFirstWord_62 at h
  refine a_istore dX6_readFirstWord_62 (Nat.le_of_ble_eq_true rfl) (lv2 := [(5, .int xs0), (0, .ref a0), (2, .ref a2), (3, .int x3), (4, .int x4)]) rfl ?_
  refine a_iload dX6_readFirstWord_64 rfl ?_
  refine a_if_eq 86 dX6_readFirstWord_66 (by decide) (fun c1 => ?_) (fun c1 => ?_)
  · replace h := ite_t c1 h
    exact a_lv (lv2 := [(0, .ref a0), (2, .ref a2), (3, .int x3), (4, .int x4), (5, .int xs0)]) (fa_cons rfl (fa_cons rfl (fa_cons rfl (fa_cons rfl (fa_cons rfl fa_nil))))) (hJ _ _ _ h)
  · replace h := ite_f c1 h
    refine a_iload dX6_readFirstWord_69 rfl ?_
    refine a_bipush (v := 24) dX6_readFirstWord_71 (by decide) ?_
    refine a_icmp_ne 86 dX6_readFirstWord_73 (by decide) (fun c2 => ?_) (fun c2 => ?_)
    · replace h := ite_f c2 h
      exact a_lv (lv2 := [(0, .ref a0), (2, .ref a2), (3, .int x3), (4, .int x4), (5, .int xs0)]) (fa_cons rfl (fa_cons rfl (fa_cons rfl (fa_cons rfl (fa_cons rfl fa_nil))))) (hJ _ _ _ h)
    · replace h := ite_t c2 h
      refine a_aload_n dX6_readFirstWord_76 rfl rfl ?_
      refine a_iconst (v := 3) dX6_readFirstWord_77 (by decide) ?_
      refine a_aload_n dX6_readFirstWord_78 rfl rfl ?_
      obtain ⟨⟨ga3, gs4⟩, h⟩ := gd_t h
      refine a_get (v := .int (M.2.2.1 a0 12)) dX6_readFirstWord_79 fl_6_68 ga3 gs4 rfl ?_
      obtain ⟨v5, M6, e7, h⟩ := bnd2_t h
      obtain ⟨n8, en9, e7⟩ := cal_t e7
      refine e_callV (As := [.int 3, .int (M.2.2.1 a0 12)]) (st := []) (a := a0) (ci := 6) false dX6_readFirstWord_82 mw_X6_fail (Or.inl ⟨rfl, ml_X6_107⟩) im_X6_fail se_X6_fail (by decide) ga3 gs4 rfl (Nat.le_of_ble_eq_true rfl) en9 (s_X6_fail e7) ?_
      obtain ⟨gb10, h⟩ := gd_t h
      exact a_zret dX6_readFirstWord_85 rfl gb10 (hR _ _ h)
set_option maxHeartbeats 4000000 in
set_option maxRecDepth 100000 in
noncomputable def T_X6_readFirstWord_86.{u} {α : Sort u} (J : Nat → List Value → Mem → α) (R : Int32 → Mem → α) (N : α) (n : Nat) (a0 : Nat) (a2 : Nat) (x3 : Int32) (x4 : Int32) (x5 : Int32) (M : Mem) : α := gd (fO M a2 9) N (if (M.2.2.1 a2 2) < 0 then gd (fO M a0 6) N (bnd2 (cal n (fun n => f_X6_fail n a0 4 (M.2.2.1 a0 12) M)) N (fun v6 M7 => gd (narrow .boolean (.int v6) = .int v6) N (R v6 M7))) else if (M.2.2.1 a2 2) < 120 then gd (fO M a0 6) N (bnd (M.2.2.2.2 a0 9) N (fun r15 => gd (fA M r15 1 (M.2.2.1 a2 2)) N (if x4 = 0 then J 136 [.ref a0, .int x3, .int x4, .int x5, .int x3, .ref a2] (wI M r15 ((M.2.2.1 a2 2).toNatClampNeg) (M.2.2.1 a0 12)) else J 136 [.ref a0, .int x3, .int x4, .int x5, .int 1, .ref a2] (wI M r15 ((M.2.2.1 a2 2).toNatClampNeg) (M.2.2.1 a0 12))))) else gd (fO M a0 6) N (bnd2 (cal n (fun n => f_X6_fail n a0 4 (M.2.2.1 a0 12) M)) N (fun v24 M25 => gd (narrow .boolean (.int v24) = .int v24) N (R v24 M25))))
set_option maxHeartbeats 4000000 in
set_option maxRecDepth 100000 in
theorem n_X6_readFirstWord_86.{u, v} {α : Sort u} {β : Sort v} (h : α → β) (J : Nat → List Value → Mem → α) (R : Int32 → Mem → α) (N : α) (n : Nat) (a0 : Nat) (a2 : Nat) (x3 : Int32) (x4 : Int32) (x5 : Int32) (M : Mem) : h (T_X6_readFirstWord_86 J R N n a0 a2 x3 x4 x5 M) = T_X6_readFirstWord_86 (fun c l M => h (J c l M)) (fun v M => h (R v M)) (h N) n a0 a2 x3 x4 x5 M := by
  simp only [T_X6_readFirstWord_86, nat_ite h, nat_gd h, nat_bnd h, nat_bnd2 h]
set_option maxHeartbeats 4000000 in
set_option maxRecDepth 100000 in
theorem w_X6_readFirstWord_86 {X : Nat × (Nat → Int32)} {al : Bool} {n : Nat} {Q : Option Value → Mem → Prop} {J : Nat → List Value → Mem → Prop} (hJ : ∀ c l M, J c l M → PW_X6_readFirstWord X al n Q c l M) {R : Int32 → Mem → Prop} (hR : ∀ v M, R v M → Q (some (.int v)) M) {a0 : Nat} {a2 : Nat} {x3 : Int32} {x4 : Int32} {x5 : Int32} {M : Mem} (h : T_X6_readFirstWord_86 J R False n a0 a2 x3 x4 x5 M) : AW X (RX6, cX6_readFirstWord, 7, (some .boolean), false, al, n) 0 0 86 [(0, .ref a0), (2, .ref a2), (3, .int x3), (4, .int x4), (5, .int x5)] [] M Q := by
  unfold T_X6_readFirstWord_86 at h
  refine a_aload_n dX6_readFirstWord_86 rfl rfl ?_
  obtain ⟨⟨ga1, gs2⟩, h⟩ := gd_t h
  refine a_getN (v := .int (M.2.2.1 a2 2)) dX6_readFirstWord_87 fn_6_173 ga1 gs2 rfl ?_
  refine a_istore dX6_readFirstWord_90 (Nat.le_of_ble_eq_true rfl) (lv2 := [(6, .int (M.2.2.1 a2 2)), (0, .ref a0), (2, .ref a2), (3, .int x3), (4, .int x4), (5, .int x5)]) rfl ?_
  refine a_iload dX6_readFirstWord_92 rfl ?_
  refine a_if_lt 104 dX6_readFirstWord_94 (by decide) (fun c3 => ?_) (fun c3 => ?_)
  · replace h := ite_t c3 h
    refine a_aload_n dX6_readFirstWord_104 rfl rfl ?_
    refine a_iconst (v := 4) dX6_readFirstWord_105 (by decide) ?_
    refine a_aload_n dX6_readFirstWord_106 rfl rfl ?_
    obtain ⟨⟨ga4, gs5⟩, h⟩ := gd_t h
    refine a_get (v := .int (M.2.2.1 a0 12)) dX6_readFirstWord_107 fl_6_68 ga4 gs5 rfl ?_
    obtain ⟨v6, M7, e8, h⟩ := bnd2_t h
    obtain ⟨n9, en10, e8⟩ := cal_t e8
    refine e_callV (As := [.int 4, .int (M.2.2.1 a0 12)]) (st := []) (a := a0) (ci := 6) false dX6_readFirstWord_110 mw_X6_fail (Or.inl ⟨rfl, ml_X6_107⟩) im_X6_fail se_X6_fail (by decide) ga4 gs5 rfl (Nat.le_of_ble_eq_true rfl) en10 (s_X6_fail e8) ?_
    obtain ⟨gb11, h⟩ := gd_t h
    exact a_zret dX6_readFirstWord_113 rfl gb11 (hR _ _ h)
  · replace h := ite_f c3 h
    refine a_iload dX6_readFirstWord_97 rfl ?_
    refine a_bipush (v := 120) dX6_readFirstWord_99 (by decide) ?_
    refine a_icmp_lt 114 dX6_readFirstWord_101 (by decide) (fun c12 => ?_) (fun c12 => ?_)
    · replace h := ite_t c12 h
      refine a_aload_n dX6_readFirstWord_114 rfl rfl ?_
      obtain ⟨⟨ga13, gs14⟩, h⟩ := gd_t h
      obtain ⟨r15, e16, h⟩ := bnd_t h
      refine a_get (v := .ref r15) dX6_readFirstWord_115 fl_6_32 ga13 gs14 (gvR e16 rfl) ?_
      refine a_iload dX6_readFirstWord_118 rfl ?_
      refine a_aload_n dX6_readFirstWord_120 rfl rfl ?_
      refine a_get (v := .int (M.2.2.1 a0 12)) dX6_readFirstWord_121 fl_6_68 ga13 gs14 rfl ?_
      obtain ⟨⟨ga17, gn18, gs19, gi20⟩, h⟩ := gd_t h
      refine a_iastore dX6_readFirstWord_124 ga17 gs19 gi20 ?_
      refine a_aload_n dX6_readFirstWord_125 rfl rfl ?_
      refine a_iload dX6_readFirstWord_126 rfl ?_
      refine a_if_eq 135 dX6_readFirstWord_128 (by decide) (fun c21 => ?_) (fun c21 => ?_)
      · replace h := ite_t c21 h
        refine a_iload_n dX6_readFirstWord_135 rfl rfl ?_
        exact a_lv (lv2 := [(0, .ref a0), (3, .int x3), (4, .int x4), (5, .int x5)]) (fa_cons rfl (fa_cons rfl (fa_cons rfl (fa_cons rfl fa_nil)))) (hJ _ _ _ h)
      · replace h := ite_f c21 h
        refine a_iconst (v := 1) dX6_readFirstWord_131 (by decide) ?_
        refine a_goto 136 dX6_readFirstWord_132 (by decide) ?_
        exact a_lv (lv2 := [(0, .ref a0), (3, .int x3), (4, .int x4), (5, .int x5)]) (fa_cons rfl (fa_cons rfl (fa_cons rfl (fa_cons rfl fa_nil)))) (hJ _ _ _ h)
    · replace h := ite_f c12 h
      refine a_aload_n dX6_readFirstWord_104 rfl rfl ?_
      refine a_iconst (v := 4) dX6_readFirstWord_105 (by decide) ?_
      refine a_aload_n dX6_readFirstWord_106 rfl rfl ?_
      obtain ⟨⟨ga22, gs23⟩, h⟩ := gd_t h
      refine a_get (v := .int (M.2.2.1 a0 12)) dX6_readFirstWord_107 fl_6_68 ga22 gs23 rfl ?_
      obtain ⟨v24, M25, e26, h⟩ := bnd2_t h
      obtain ⟨n27, en28, e26⟩ := cal_t e26
      refine e_callV (As := [.int 4, .int (M.2.2.1 a0 12)]) (st := []) (a := a0) (ci := 6) false dX6_readFirstWord_110 mw_X6_fail (Or.inl ⟨rfl, ml_X6_107⟩) im_X6_fail se_X6_fail (by decide) ga22 gs23 rfl (Nat.le_of_ble_eq_true rfl) en28 (s_X6_fail e26) ?_
      obtain ⟨gb29, h⟩ := gd_t h
      exact a_zret dX6_readFirstWord_113 rfl gb29 (hR _ _ h)
set_option maxHeartbeats 4000000 in
set_option maxRecDepth 100000 in
noncomputable def T_X6_readFirstWord_136.{u} {α : Sort u} (J : Nat → List Value → Mem → α) (R : Int32 → Mem → α) (N : α) (n : Nat) (a0 : Nat) (x3 : Int32) (x4 : Int32) (x5 : Int32) (xs0 : Int32) (ra1 : Nat) (M : Mem) : α := gd (fO M ra1 9) N (bnd2 (cal n (fun n => f_X9_add n ra1 xs0 x5 M)) N (fun _ M3 => if x4 = 0 then gd (fO M3 a0 6) N (bnd2 (cal n (fun n => f_X6_wantRest n a0 x3 M3)) N (fun _ M10 => R 1 M10)) else R 1 M3))
set_option maxHeartbeats 4000000 in
set_option maxRecDepth 100000 in
theorem n_X6_readFirstWord_136.{u, v} {α : Sort u} {β : Sort v} (h : α → β) (J : Nat → List Value → Mem → α) (R : Int32 → Mem → α) (N : α) (n : Nat) (a0 : Nat) (x3 : Int32) (x4 : Int32) (x5 : Int32) (xs0 : Int32) (ra1 : Nat) (M : Mem) : h (T_X6_readFirstWord_136 J R N n a0 x3 x4 x5 xs0 ra1 M) = T_X6_readFirstWord_136 (fun c l M => h (J c l M)) (fun v M => h (R v M)) (h N) n a0 x3 x4 x5 xs0 ra1 M := by
  simp only [T_X6_readFirstWord_136, nat_ite h, nat_gd h, nat_bnd h, nat_bnd2 h]
set_option maxHeartbeats 4000000 in
set_option maxRecDepth 100000 in
theorem w_X6_readFirstWord_136 {X : Nat × (Nat → Int32)} {al : Bool} {n : Nat} {Q : Option Value → Mem → Prop} {J : Nat → List Value → Mem → Prop} (hJ : ∀ c l M, J c l M → PW_X6_readFirstWord X al n Q c l M) {R : Int32 → Mem → Prop} (hR : ∀ v M, R v M → Q (some (.int v)) M) {a0 : Nat} {x3 : Int32} {x4 : Int32} {x5 : Int32} {xs0 : Int32} {ra1 : Nat} {M : Mem} (h : T_X6_readFirstWord_136 J R False n a0 x3 x4 x5 xs0 ra1 M) : AW X (RX6, cX6_readFirstWord, 7, (some .boolean), false, al, n) 0 0 136 [(0, .ref a0), (3, .int x3), (4, .int x4), (5, .int x5)] [.int xs0, .ref ra1] M Q := by
  unfold T_X6_readFirstWord_136 at h
  refine a_iload dX6_readFirstWord_136 rfl ?_
  obtain ⟨⟨ga1, gs2⟩, h⟩ := gd_t h
  obtain ⟨_, M3, e4, h⟩ := bnd2_t h
  obtain ⟨n5, en6, e4⟩ := cal_t e4
  refine e_callV (As := [.int xs0, .int x5]) (st := []) (a := ra1) (ci := 9) false dX6_readFirstWord_138 mw_X9_add (Or.inl ⟨rfl, ml_X6_191⟩) im_X9_add se_X9_add (by decide) ga1 gs2 rfl (Nat.le_of_ble_eq_true rfl) en6 (s_X9_add e4) ?_
  refine a_iload dX6_readFirstWord_141 rfl ?_
  refine a_if_ne 151 dX6_readFirstWord_143 (by decide) (fun c7 => ?_) (fun c7 => ?_)
  · replace h := ite_f c7 h
    refine a_iconst (v := 1) dX6_readFirstWord_151 (by decide) ?_
    exact a_zret dX6_readFirstWord_152 rfl rfl (hR _ _ h)
  · replace h := ite_t c7 h
    refine a_aload_n dX6_readFirstWord_146 rfl rfl ?_
    refine a_iload_n dX6_readFirstWord_147 rfl rfl ?_
    obtain ⟨⟨ga8, gs9⟩, h⟩ := gd_t h
    obtain ⟨_, M10, e11, h⟩ := bnd2_t h
    obtain ⟨n12, en13, e11⟩ := cal_t e11
    refine e_callV (As := [.int x3]) (st := []) (a := a0) (ci := 6) false dX6_readFirstWord_148 mw_X6_wantRest (Or.inl ⟨rfl, ml_X6_193⟩) im_X6_wantRest se_X6_wantRest (by decide) ga8 gs9 rfl (Nat.le_of_ble_eq_true rfl) en13 (s_X6_wantRest e11) ?_
    refine a_iconst (v := 1) dX6_readFirstWord_151 (by decide) ?_
    exact a_zret dX6_readFirstWord_152 rfl rfl (hR _ _ h)
set_option maxHeartbeats 4000000 in
set_option maxRecDepth 100000 in
noncomputable def st_X6_readFirstWord (n : Nat) (s : Sg) : Option (Sg ⊕ (Int32 × Mem)) := if s.1 = 0 then vR s.2.1 none (fun a0 t => vR t none (fun a1 t => vR t none (fun a2 t => vE t none (T_X6_readFirstWord_0 (fun c l M => some (.inl (c, l, M))) (fun v M => some (.inr (v, M))) none n a0 a1 a2 s.2.2)))) else if s.1 = 44 then vR s.2.1 none (fun a0 t => vR t none (fun a1 t => vR t none (fun a2 t => vI t none (fun x3 t => vI t none (fun x4 t => vE t none (T_X6_readFirstWord_44 (fun c l M => some (.inl (c, l, M))) (fun v M => some (.inr (v, M))) none n a0 a1 a2 x3 x4 s.2.2)))))) else if s.1 = 62 then vR s.2.1 none (fun a0 t => vR t none (fun a2 t => vI t none (fun x3 t => vI t none (fun x4 t => vI t none (fun xs0 t => vE t none (T_X6_readFirstWord_62 (fun c l M => some (.inl (c, l, M))) (fun v M => some (.inr (v, M))) none n a0 a2 x3 x4 xs0 s.2.2)))))) else if s.1 = 86 then vR s.2.1 none (fun a0 t => vR t none (fun a2 t => vI t none (fun x3 t => vI t none (fun x4 t => vI t none (fun x5 t => vE t none (T_X6_readFirstWord_86 (fun c l M => some (.inl (c, l, M))) (fun v M => some (.inr (v, M))) none n a0 a2 x3 x4 x5 s.2.2)))))) else if s.1 = 136 then vR s.2.1 none (fun a0 t => vI t none (fun x3 t => vI t none (fun x4 t => vI t none (fun x5 t => vI t none (fun xs0 t => vR t none (fun ra1 t => vE t none (T_X6_readFirstWord_136 (fun c l M => some (.inl (c, l, M))) (fun v M => some (.inr (v, M))) none n a0 x3 x4 x5 xs0 ra1 s.2.2))))))) else none
noncomputable abbrev g_X6_readFirstWord_0 (n : Nat) (a0 : Nat) (a1 : Nat) (a2 : Nat) (M : Mem) : Option (Int32 × Mem) := lp (st_X6_readFirstWord n) (0, [.ref a0, .ref a1, .ref a2], M)
set_option maxHeartbeats 4000000 in
set_option maxRecDepth 100000 in
theorem ge_X6_readFirstWord_0 (n : Nat) (a0 : Nat) (a1 : Nat) (a2 : Nat) (M : Mem) : g_X6_readFirstWord_0 n a0 a1 a2 M = T_X6_readFirstWord_0 (fun c l M => lp (st_X6_readFirstWord n) (c, l, M)) (fun v M => some (v, M)) none n a0 a1 a2 M := (lp_eq _ _).trans (n_X6_readFirstWord_0 (lpK (st_X6_readFirstWord n)) (fun c l M => some (.inl (c, l, M))) (fun v M => some (.inr (v, M))) none n a0 a1 a2 M)
noncomputable abbrev g_X6_readFirstWord_44 (n : Nat) (a0 : Nat) (a1 : Nat) (a2 : Nat) (x3 : Int32) (x4 : Int32) (M : Mem) : Option (Int32 × Mem) := lp (st_X6_readFirstWord n) (44, [.ref a0, .ref a1, .ref a2, .int x3, .int x4], M)
set_option maxHeartbeats 4000000 in
set_option maxRecDepth 100000 in
theorem ge_X6_readFirstWord_44 (n : Nat) (a0 : Nat) (a1 : Nat) (a2 : Nat) (x3 : Int32) (x4 : Int32) (M : Mem) : g_X6_readFirstWord_44 n a0 a1 a2 x3 x4 M = T_X6_readFirstWord_44 (fun c l M => lp (st_X6_readFirstWord n) (c, l, M)) (fun v M => some (v, M)) none n a0 a1 a2 x3 x4 M := (lp_eq _ _).trans (n_X6_readFirstWord_44 (lpK (st_X6_readFirstWord n)) (fun c l M => some (.inl (c, l, M))) (fun v M => some (.inr (v, M))) none n a0 a1 a2 x3 x4 M)
noncomputable abbrev g_X6_readFirstWord_62 (n : Nat) (a0 : Nat) (a2 : Nat) (x3 : Int32) (x4 : Int32) (xs0 : Int32) (M : Mem) : Option (Int32 × Mem) := lp (st_X6_readFirstWord n) (62, [.ref a0, .ref a2, .int x3, .int x4, .int xs0], M)
set_option maxHeartbeats 4000000 in
set_option maxRecDepth 100000 in
theorem ge_X6_readFirstWord_62 (n : Nat) (a0 : Nat) (a2 : Nat) (x3 : Int32) (x4 : Int32) (xs0 : Int32) (M : Mem) : g_X6_readFirstWord_62 n a0 a2 x3 x4 xs0 M = T_X6_readFirstWord_62 (fun c l M => lp (st_X6_readFirstWord n) (c, l, M)) (fun v M => some (v, M)) none n a0 a2 x3 x4 xs0 M := (lp_eq _ _).trans (n_X6_readFirstWord_62 (lpK (st_X6_readFirstWord n)) (fun c l M => some (.inl (c, l, M))) (fun v M => some (.inr (v, M))) none n a0 a2 x3 x4 xs0 M)
noncomputable abbrev g_X6_readFirstWord_86 (n : Nat) (a0 : Nat) (a2 : Nat) (x3 : Int32) (x4 : Int32) (x5 : Int32) (M : Mem) : Option (Int32 × Mem) := lp (st_X6_readFirstWord n) (86, [.ref a0, .ref a2, .int x3, .int x4, .int x5], M)
set_option maxHeartbeats 4000000 in
set_option maxRecDepth 100000 in
theorem ge_X6_readFirstWord_86 (n : Nat) (a0 : Nat) (a2 : Nat) (x3 : Int32) (x4 : Int32) (x5 : Int32) (M : Mem) : g_X6_readFirstWord_86 n a0 a2 x3 x4 x5 M = T_X6_readFirstWord_86 (fun c l M => lp (st_X6_readFirstWord n) (c, l, M)) (fun v M => some (v, M)) none n a0 a2 x3 x4 x5 M := (lp_eq _ _).trans (n_X6_readFirstWord_86 (lpK (st_X6_readFirstWord n)) (fun c l M => some (.inl (c, l, M))) (fun v M => some (.inr (v, M))) none n a0 a2 x3 x4 x5 M)
noncomputable abbrev g_X6_readFirstWord_136 (n : Nat) (a0 : Nat) (x3 : Int32) (x4 : Int32) (x5 : Int32) (xs0 : Int32) (ra1 : Nat) (M : Mem) : Option (Int32 × Mem) := lp (st_X6_readFirstWord n) (136, [.ref a0, .int x3, .int x4, .int x5, .int xs0, .ref ra1], M)
set_option maxHeartbeats 4000000 in
set_option maxRecDepth 100000 in
theorem ge_X6_readFirstWord_136 (n : Nat) (a0 : Nat) (x3 : Int32) (x4 : Int32) (x5 : Int32) (xs0 : Int32) (ra1 : Nat) (M : Mem) : g_X6_readFirstWord_136 n a0 x3 x4 x5 xs0 ra1 M = T_X6_readFirstWord_136 (fun c l M => lp (st_X6_readFirstWord n) (c, l, M)) (fun v M => some (v, M)) none n a0 x3 x4 x5 xs0 ra1 M := (lp_eq _ _).trans (n_X6_readFirstWord_136 (lpK (st_X6_readFirstWord n)) (fun c l M => some (.inl (c, l, M))) (fun v M => some (.inr (v, M))) none n a0 x3 x4 x5 xs0 ra1 M)
noncomputable def b_X6_readFirstWord (n : Nat) (a0 : Nat) (a1 : Nat) (a2 : Nat) (M : Mem) : Option (Int32 × Mem) := g_X6_readFirstWord_0 n a0 a1 a2 M
set_option maxHeartbeats 4000000 in
set_option maxRecDepth 100000 in
theorem sb_X6_readFirstWord {X : Nat × (Nat → Int32)} {al : Bool} {n : Nat} {a0 : Nat} {a1 : Nat} {a2 : Nat} {M : Mem} {v : Int32} {M1 : Mem} (h : b_X6_readFirstWord n a0 a1 a2 M = some (v, M1)) : AE yX6_readFirstWord cX6_readFirstWord 7 (some .boolean) al n X [.ref a0, .ref a1, .ref a2] M (some (.int v)) M1 := by
  refine AM.of false (by decide +kernel) (by intro h; cases h) (Nat.le_of_ble_eq_true rfl) ?_
  refine lp_snd (P := fun s r => PW_X6_readFirstWord X al n (fun v M2 => v = (some (.int r.1)) ∧ M2 = r.2) s.1 s.2.1 s.2.2) ?_ h
  clear h
  rintro ⟨c, l, M⟩ r h
  unfold st_X6_readFirstWord at h
  rcases ite_p h with ⟨e, h⟩ | ⟨e, h⟩
  · replace e : c = 0 := e
    subst e
    obtain ⟨a0, tt0, e, h⟩ := vR_p id h
    replace e : l = _ := e
    subst e
    obtain ⟨a1, tt1, e, h⟩ := vR_p id h
    replace e : tt0 = _ := e
    subst e
    obtain ⟨a2, tt2, e, h⟩ := vR_p id h
    replace e : tt1 = _ := e
    subst e
    obtain ⟨e, h⟩ := vE_p id h
    replace e : tt2 = [] := e
    subst e
    exact w_X6_readFirstWord_0 (J := fun c l M => PW_X6_readFirstWord X al n (fun v M2 => v = (some (.int r.1)) ∧ M2 = r.2) c l M) (R := fun v M => (v, M) = r) (fun _ _ _ h => h) (fun v M h => by cases h; exact ⟨rfl, rfl⟩) ((n_X6_readFirstWord_0 (lpP (fun (s : Sg) (r : Int32 × Mem) => PW_X6_readFirstWord X al n (fun v M2 => v = (some (.int r.1)) ∧ M2 = r.2) s.1 s.2.1 s.2.2) r) (fun c l M => some (.inl (c, l, M))) (fun v M => some (.inr (v, M))) none n a0 a1 a2 M).mp h)
  rcases ite_p h with ⟨e, h⟩ | ⟨e, h⟩
  · replace e : c = 44 := e
    subst e
    obtain ⟨a0, tt0, e, h⟩ := vR_p id h
    replace e : l = _ := e
    subst e
    obtain ⟨a1, tt1, e, h⟩ := vR_p id h
    replace e : tt0 = _ := e
    subst e
    obtain ⟨a2, tt2, e, h⟩ := vR_p id h
    replace e : tt1 = _ := e
    subst e
    obtain ⟨x3, tt3, e, h⟩ := vI_p id h
    replace e : tt2 = _ := e
    subst e
    obtain ⟨x4, tt4, e, h⟩ := vI_p id h
    replace e : tt3 = _ := e
    subst e
    obtain ⟨e, h⟩ := vE_p id h
    replace e : tt4 = [] := e
    subst e
    exact w_X6_readFirstWord_44 (J := fun c l M => PW_X6_readFirstWord X al n (fun v M2 => v = (some (.int r.1)) ∧ M2 = r.2) c l M) (R := fun v M => (v, M) = r) (fun _ _ _ h => h) (fun v M h => by cases h; exact ⟨rfl, rfl⟩) ((n_X6_readFirstWord_44 (lpP (fun (s : Sg) (r : Int32 × Mem) => PW_X6_readFirstWord X al n (fun v M2 => v = (some (.int r.1)) ∧ M2 = r.2) s.1 s.2.1 s.2.2) r) (fun c l M => some (.inl (c, l, M))) (fun v M => some (.inr (v, M))) none n a0 a1 a2 x3 x4 M).mp h)
  rcases ite_p h with ⟨e, h⟩ | ⟨e, h⟩
  · replace e : c = 62 := e
    subst e
    obtain ⟨a0, tt0, e, h⟩ := vR_p id h
    replace e : l = _ := e
    subst e
    obtain ⟨a2, tt1, e, h⟩ := vR_p id h
    replace e : tt0 = _ := e
    subst e
    obtain ⟨x3, tt2, e, h⟩ := vI_p id h
    replace e : tt1 = _ := e
    subst e
    obtain ⟨x4, tt3, e, h⟩ := vI_p id h
    replace e : tt2 = _ := e
    subst e
    obtain ⟨xs0, tt4, e, h⟩ := vI_p id h
    replace e : tt3 = _ := e
    subst e
    obtain ⟨e, h⟩ := vE_p id h
    replace e : tt4 = [] := e
    subst e
    exact w_X6_readFirstWord_62 (J := fun c l M => PW_X6_readFirstWord X al n (fun v M2 => v = (some (.int r.1)) ∧ M2 = r.2) c l M) (R := fun v M => (v, M) = r) (fun _ _ _ h => h) (fun v M h => by cases h; exact ⟨rfl, rfl⟩) ((n_X6_readFirstWord_62 (lpP (fun (s : Sg) (r : Int32 × Mem) => PW_X6_readFirstWord X al n (fun v M2 => v = (some (.int r.1)) ∧ M2 = r.2) s.1 s.2.1 s.2.2) r) (fun c l M => some (.inl (c, l, M))) (fun v M => some (.inr (v, M))) none n a0 a2 x3 x4 xs0 M).mp h)
  rcases ite_p h with ⟨e, h⟩ | ⟨e, h⟩
  · replace e : c = 86 := e
    subst e
    obtain ⟨a0, tt0, e, h⟩ := vR_p id h
    replace e : l = _ := e
    subst e
    obtain ⟨a2, tt1, e, h⟩ := vR_p id h
    replace e : tt0 = _ := e
    subst e
    obtain ⟨x3, tt2, e, h⟩ := vI_p id h
    replace e : tt1 = _ := e
    subst e
    obtain ⟨x4, tt3, e, h⟩ := vI_p id h
    replace e : tt2 = _ := e
    subst e
    obtain ⟨x5, tt4, e, h⟩ := vI_p id h
    replace e : tt3 = _ := e
    subst e
    obtain ⟨e, h⟩ := vE_p id h
    replace e : tt4 = [] := e
    subst e
    exact w_X6_readFirstWord_86 (J := fun c l M => PW_X6_readFirstWord X al n (fun v M2 => v = (some (.int r.1)) ∧ M2 = r.2) c l M) (R := fun v M => (v, M) = r) (fun _ _ _ h => h) (fun v M h => by cases h; exact ⟨rfl, rfl⟩) ((n_X6_readFirstWord_86 (lpP (fun (s : Sg) (r : Int32 × Mem) => PW_X6_readFirstWord X al n (fun v M2 => v = (some (.int r.1)) ∧ M2 = r.2) s.1 s.2.1 s.2.2) r) (fun c l M => some (.inl (c, l, M))) (fun v M => some (.inr (v, M))) none n a0 a2 x3 x4 x5 M).mp h)
  rcases ite_p h with ⟨e, h⟩ | ⟨e, h⟩
  · replace e : c = 136 := e
    subst e
    obtain ⟨a0, tt0, e, h⟩ := vR_p id h
    replace e : l = _ := e
    subst e
    obtain ⟨x3, tt1, e, h⟩ := vI_p id h
    replace e : tt0 = _ := e
    subst e
    obtain ⟨x4, tt2, e, h⟩ := vI_p id h
    replace e : tt1 = _ := e
    subst e
    obtain ⟨x5, tt3, e, h⟩ := vI_p id h
    replace e : tt2 = _ := e
    subst e
    obtain ⟨xs0, tt4, e, h⟩ := vI_p id h
    replace e : tt3 = _ := e
    subst e
    obtain ⟨ra1, tt5, e, h⟩ := vR_p id h
    replace e : tt4 = _ := e
    subst e
    obtain ⟨e, h⟩ := vE_p id h
    replace e : tt5 = [] := e
    subst e
    exact w_X6_readFirstWord_136 (J := fun c l M => PW_X6_readFirstWord X al n (fun v M2 => v = (some (.int r.1)) ∧ M2 = r.2) c l M) (R := fun v M => (v, M) = r) (fun _ _ _ h => h) (fun v M h => by cases h; exact ⟨rfl, rfl⟩) ((n_X6_readFirstWord_136 (lpP (fun (s : Sg) (r : Int32 × Mem) => PW_X6_readFirstWord X al n (fun v M2 => v = (some (.int r.1)) ∧ M2 = r.2) s.1 s.2.1 s.2.2) r) (fun c l M => some (.inl (c, l, M))) (fun v M => some (.inr (v, M))) none n a0 x3 x4 x5 xs0 ra1 M).mp h)
  · exact h.elim

noncomputable abbrev f_X6_readFirstWord := b_X6_readFirstWord
theorem s_X6_readFirstWord {X : Nat × (Nat → Int32)} {al : Bool} {n : Nat} {a0 : Nat} {a1 : Nat} {a2 : Nat} {M : Mem} {v : Int32} {M1 : Mem} (h : f_X6_readFirstWord n a0 a1 a2 M = some (v, M1)) : AE yX6_readFirstWord cX6_readFirstWord 7 (some .boolean) al n X [.ref a0, .ref a1, .ref a2] M (some (.int v)) M1 := sb_X6_readFirstWord h
set_option maxHeartbeats 4000000 in
set_option maxRecDepth 100000 in
noncomputable def T_X6_readWanted_0.{u} {α : Sort u} (R : Int32 → Mem → α) (N : α) (n : Nat) (a0 : Nat) (x1 : Int32) (a2 : Nat) (a3 : Nat) (M : Mem) : α := if x1 = 2 then gd (fO M a0 6) N (bnd2 (cal n (fun n => f_X6_readFormula n a0 M)) N (fun v4 M5 => gd (fO M5 a3 9) N (bnd2 (cal n (fun n => f_X9_tell n a3 ((M5.2.2.1 a3 2) - 1) v4 M5)) N (fun _ M11 => if v4 = (-1) then R 0 M11 else R 1 M11)))) else if x1 = 3 then gd (fO M a0 6) N (bnd2 (cal n (fun n => f_X6_readBinder n a0 M)) N (fun v19 M20 => gd (narrow .boolean (.int v19) = .int v19) N (R v19 M20))) else if x1 = 4 then gd (fO M a0 6) N (R 1 (wI M a0 8 ((M.2.2.1 a0 8) - 1))) else gd (fO M a0 6) N (bnd2 (cal n (fun n => f_X6_readFirstWord n a0 a2 a3 M)) N (fun v30 M31 => gd (narrow .boolean (.int v30) = .int v30) N (R v30 M31)))
set_option maxHeartbeats 4000000 in
set_option maxRecDepth 100000 in
theorem n_X6_readWanted_0.{u, v} {α : Sort u} {β : Sort v} (h : α → β) (R : Int32 → Mem → α) (N : α) (n : Nat) (a0 : Nat) (x1 : Int32) (a2 : Nat) (a3 : Nat) (M : Mem) : h (T_X6_readWanted_0 R N n a0 x1 a2 a3 M) = T_X6_readWanted_0 (fun v M => h (R v M)) (h N) n a0 x1 a2 a3 M := by
  simp only [T_X6_readWanted_0, nat_ite h, nat_gd h, nat_bnd h, nat_bnd2 h]
set_option maxHeartbeats 4000000 in
set_option maxRecDepth 100000 in
theorem w_X6_readWanted_0 {X : Nat × (Nat → Int32)} {al : Bool} {n : Nat} {Q : Option Value → Mem → Prop} {R : Int32 → Mem → Prop} (hR : ∀ v M, R v M → Q (some (.int v)) M) {a0 : Nat} {x1 : Int32} {a2 : Nat} {a3 : Nat} {M : Mem} (h : T_X6_readWanted_0 R False n a0 x1 a2 a3 M) : AW X (RX6, cX6_readWanted, 5, (some .boolean), false, al, n) 0 0 0 [(0, .ref a0), (1, .int x1), (2, .ref a2), (3, .ref a3)] [] M Q := by
  unfold T_X6_readWanted_0 at h
  refine a_iload_n dX6_readWanted_0 rfl rfl ?_
  by_cases c1 : x1 = 2
  · replace h := ite_t c1 h
    refine a_tableIn (off := 27) 28 dX6_readWanted_1 (by rw [c1]; decide) (by rw [c1]; decide) (by rw [c1]; rfl) (by decide) ?_
    refine a_aload_n dX6_readWanted_28 rfl rfl ?_
    obtain ⟨⟨ga2, gs3⟩, h⟩ := gd_t h
    obtain ⟨v4, M5, e6, h⟩ := bnd2_t h
    obtain ⟨n7, en8, e6⟩ := cal_t e6
    refine e_callV (As := []) (st := []) (a := a0) (ci := 6) false dX6_readWanted_29 mw_X6_readFormula (Or.inl ⟨rfl, ml_X6_123⟩) im_X6_readFormula se_X6_readFormula (by decide) ga2 gs3 rfl (Nat.le_of_ble_eq_true rfl) en8 (s_X6_readFormula e6) ?_
    refine a_istore dX6_readWanted_32 (Nat.le_of_ble_eq_true rfl) (lv2 := [(4, .int v4), (0, .ref a0), (1, .int x1), (2, .ref a2), (3, .ref a3)]) rfl ?_
    refine a_aload_n dX6_readWanted_34 rfl rfl ?_
    refine a_aload_n dX6_readWanted_35 rfl rfl ?_
    obtain ⟨⟨ga9, gs10⟩, h⟩ := gd_t h
    refine a_getN (v := .int (M5.2.2.1 a3 2)) dX6_readWanted_36 fn_6_173 ga9 gs10 rfl ?_
    refine a_iconst (v := 1) dX6_readWanted_39 (by decide) ?_
    refine a_isub dX6_readWanted_40 ?_
    refine a_iload dX6_readWanted_41 rfl ?_
    obtain ⟨_, M11, e12, h⟩ := bnd2_t h
    obtain ⟨n13, en14, e12⟩ := cal_t e12
    refine e_callV (As := [.int ((M5.2.2.1 a3 2) - 1), .int v4]) (st := []) (a := a3) (ci := 9) false dX6_readWanted_43 mw_X9_tell (Or.inl ⟨rfl, ml_X6_176⟩) im_X9_tell se_X9_tell (by decide) ga9 gs10 rfl (Nat.le_of_ble_eq_true rfl) en14 (s_X9_tell e12) ?_
    refine a_iload dX6_readWanted_46 rfl ?_
    refine a_iconst (v := -1) dX6_readWanted_48 (by decide) ?_
    refine a_icmp_eq 56 dX6_readWanted_49 (by decide) (fun c15 => ?_) (fun c15 => ?_)
    · replace h := ite_t c15 h
      refine a_iconst (v := 0) dX6_readWanted_56 (by decide) ?_
      exact a_zret dX6_readWanted_57 rfl rfl (hR _ _ h)
    · replace h := ite_f c15 h
      refine a_iconst (v := 1) dX6_readWanted_52 (by decide) ?_
      refine a_goto 57 dX6_readWanted_53 (by decide) ?_
      exact a_zret dX6_readWanted_57 rfl rfl (hR _ _ h)
  replace h := ite_f c1 h
  by_cases c16 : x1 = 3
  · replace h := ite_t c16 h
    refine a_tableIn (off := 57) 58 dX6_readWanted_1 (by rw [c16]; decide) (by rw [c16]; decide) (by rw [c16]; rfl) (by decide) ?_
    refine a_aload_n dX6_readWanted_58 rfl rfl ?_
    obtain ⟨⟨ga17, gs18⟩, h⟩ := gd_t h
    obtain ⟨v19, M20, e21, h⟩ := bnd2_t h
    obtain ⟨n22, en23, e21⟩ := cal_t e21
    refine e_callV (As := []) (st := []) (a := a0) (ci := 6) false dX6_readWanted_59 mw_X6_readBinder (Or.inl ⟨rfl, ml_X6_180⟩) im_X6_readBinder se_X6_readBinder (by decide) ga17 gs18 rfl (Nat.le_of_ble_eq_true rfl) en23 (s_X6_readBinder e21) ?_
    obtain ⟨gb24, h⟩ := gd_t h
    exact a_zret dX6_readWanted_62 rfl gb24 (hR _ _ h)
  replace h := ite_f c16 h
  by_cases c25 : x1 = 4
  · replace h := ite_t c25 h
    refine a_tableIn (off := 62) 63 dX6_readWanted_1 (by rw [c25]; decide) (by rw [c25]; decide) (by rw [c25]; rfl) (by decide) ?_
    refine a_aload_n dX6_readWanted_63 rfl rfl ?_
    refine a_dup dX6_readWanted_64 rfl ?_
    obtain ⟨⟨ga26, gs27⟩, h⟩ := gd_t h
    refine a_get (v := .int (M.2.2.1 a0 8)) dX6_readWanted_65 fl_6_160 ga26 gs27 rfl ?_
    refine a_iconst (v := 1) dX6_readWanted_68 (by decide) ?_
    refine a_isub dX6_readWanted_69 ?_
    refine a_putI dX6_readWanted_70 (Or.inl ⟨fl_6_160, Or.inl rfl⟩) rfl ga26 gs27 rfl rfl ?_
    refine a_iconst (v := 1) dX6_readWanted_73 (by decide) ?_
    exact a_zret dX6_readWanted_74 rfl rfl (hR _ _ h)
  replace h := ite_f c25 h
  refine a_tableOut 75 dX6_readWanted_1 (by have q0 := ne_toInt (z := 2) c1 rfl; have q1 := ne_toInt (z := 3) c16 rfl; have q2 := ne_toInt (z := 4) c25 rfl; omega) (by decide) ?_
  refine a_aload_n dX6_readWanted_75 rfl rfl ?_
  refine a_aload_n dX6_readWanted_76 rfl rfl ?_
  refine a_aload_n dX6_readWanted_77 rfl rfl ?_
  obtain ⟨⟨ga28, gs29⟩, h⟩ := gd_t h
  obtain ⟨v30, M31, e32, h⟩ := bnd2_t h
  obtain ⟨n33, en34, e32⟩ := cal_t e32
  refine e_callV (As := [.ref a2, .ref a3]) (st := []) (a := a0) (ci := 6) false dX6_readWanted_78 mw_X6_readFirstWord (Or.inl ⟨rfl, ml_X6_183⟩) im_X6_readFirstWord se_X6_readFirstWord (by decide) ga28 gs29 rfl (Nat.le_of_ble_eq_true rfl) en34 (s_X6_readFirstWord e32) ?_
  obtain ⟨gb35, h⟩ := gd_t h
  exact a_zret dX6_readWanted_81 rfl gb35 (hR _ _ h)
noncomputable def b_X6_readWanted (n : Nat) (a0 : Nat) (x1 : Int32) (a2 : Nat) (a3 : Nat) (M : Mem) : Option (Int32 × Mem) := T_X6_readWanted_0 (fun v M => some (v, M)) none n a0 x1 a2 a3 M
set_option maxHeartbeats 4000000 in
set_option maxRecDepth 100000 in
theorem sb_X6_readWanted {X : Nat × (Nat → Int32)} {al : Bool} {n : Nat} {a0 : Nat} {x1 : Int32} {a2 : Nat} {a3 : Nat} {M : Mem} {v : Int32} {M1 : Mem} (h : b_X6_readWanted n a0 x1 a2 a3 M = some (v, M1)) : AE yX6_readWanted cX6_readWanted 5 (some .boolean) al n X [.ref a0, .int x1, .ref a2, .ref a3] M (some (.int v)) M1 := by
  refine AM.of false (by decide +kernel) (by intro h; cases h) (Nat.le_of_ble_eq_true rfl) ?_
  have h2 : T_X6_readWanted_0 (fun v2 M2 => some (v2, M2) = some (v, M1)) (none = some (v, M1)) n a0 x1 a2 a3 M := (n_X6_readWanted_0 (fun o => o = some (v, M1)) (fun v M => some (v, M)) none n a0 x1 a2 a3 M).mp h
  have h3 : ((none : Option (Int32 × Mem)) = some (v, M1)) = False := eq_false (by intro q; cases q)
  rw [h3] at h2
  exact w_X6_readWanted_0 (fun v2 M2 h => by cases h; exact ⟨rfl, rfl⟩) h2

noncomputable abbrev f_X6_readWanted := b_X6_readWanted
theorem s_X6_readWanted {X : Nat × (Nat → Int32)} {al : Bool} {n : Nat} {a0 : Nat} {x1 : Int32} {a2 : Nat} {a3 : Nat} {M : Mem} {v : Int32} {M1 : Mem} (h : f_X6_readWanted n a0 x1 a2 a3 M = some (v, M1)) : AE yX6_readWanted cX6_readWanted 5 (some .boolean) al n X [.ref a0, .int x1, .ref a2, .ref a3] M (some (.int v)) M1 := sb_X6_readWanted h
def ix_X6_readTerm (c : Nat) : List Nat := if c = 0 then [0, 1, 2, 3] else if c = 27 then [0, 2, 3, 4] else []
def PW_X6_readTerm (X : Nat × (Nat → Int32)) (al : Bool) (n : Nat) (Q : Option Value → Mem → Prop) (c : Nat) (l : List Value) (M : Mem) : Prop := AW X (RX6, cX6_readTerm, 5, (some .boolean), false, al, n) 0 0 c (List.zip (ix_X6_readTerm c) l) (l.drop (ix_X6_readTerm c).length) M Q
set_option maxHeartbeats 4000000 in
set_option maxRecDepth 100000 in
noncomputable def T_X6_readTerm_0.{u} {α : Sort u} (J : Nat → List Value → Mem → α) (R : Int32 → Mem → α) (N : α) (n : Nat) (a0 : Nat) (x1 : Int32) (a2 : Nat) (a3 : Nat) (M : Mem) : α := gd (fO M a0 6) N (bnd2 (cal n (fun n => f_X6_begin n a0 x1 M)) N (fun _ M3 => gd (fO M3 a3 9) N (bnd2 (cal n (fun n => f_X9_clear n a3 M3)) N (fun _ M9 => gd (fO M9 a0 6) N (bnd2 (cal n (fun n => f_X6_push n a0 1 (wI (wI M9 a0 6 0) a0 8 0))) N (fun _ M15 => J 27 [.ref a0, .ref a2, .ref a3, .int 0] M15))))))
set_option maxHeartbeats 4000000 in
set_option maxRecDepth 100000 in
theorem n_X6_readTerm_0.{u, v} {α : Sort u} {β : Sort v} (h : α → β) (J : Nat → List Value → Mem → α) (R : Int32 → Mem → α) (N : α) (n : Nat) (a0 : Nat) (x1 : Int32) (a2 : Nat) (a3 : Nat) (M : Mem) : h (T_X6_readTerm_0 J R N n a0 x1 a2 a3 M) = T_X6_readTerm_0 (fun c l M => h (J c l M)) (fun v M => h (R v M)) (h N) n a0 x1 a2 a3 M := by
  simp only [T_X6_readTerm_0, nat_ite h, nat_gd h, nat_bnd h, nat_bnd2 h]
set_option maxHeartbeats 4000000 in
set_option maxRecDepth 100000 in
theorem w_X6_readTerm_0 {X : Nat × (Nat → Int32)} {al : Bool} {n : Nat} {Q : Option Value → Mem → Prop} {J : Nat → List Value → Mem → Prop} (hJ : ∀ c l M, J c l M → PW_X6_readTerm X al n Q c l M) {R : Int32 → Mem → Prop} (hR : ∀ v M, R v M → Q (some (.int v)) M) {a0 : Nat} {x1 : Int32} {a2 : Nat} {a3 : Nat} {M : Mem} (h : T_X6_readTerm_0 J R False n a0 x1 a2 a3 M) : AW X (RX6, cX6_readTerm, 5, (some .boolean), false, al, n) 0 0 0 [(0, .ref a0), (1, .int x1), (2, .ref a2), (3, .ref a3)] [] M Q := by
  unfold T_X6_readTerm_0 at h
  refine a_aload_n dX6_readTerm_0 rfl rfl ?_
  refine a_iload_n dX6_readTerm_1 rfl rfl ?_
  obtain ⟨⟨ga1, gs2⟩, h⟩ := gd_t h
  obtain ⟨_, M3, e4, h⟩ := bnd2_t h
  obtain ⟨n5, en6, e4⟩ := cal_t e4
  refine e_callV (As := [.int x1]) (st := []) (a := a0) (ci := 6) false dX6_readTerm_2 mw_X6_begin (Or.inl ⟨rfl, ml_X6_90⟩) im_X6_begin se_X6_begin (by decide) ga1 gs2 rfl (Nat.le_of_ble_eq_true rfl) en6 (s_X6_begin e4) ?_
  refine a_aload_n dX6_readTerm_5 rfl rfl ?_
  obtain ⟨⟨ga7, gs8⟩, h⟩ := gd_t h
  obtain ⟨_, M9, e10, h⟩ := bnd2_t h
  obtain ⟨n11, en12, e10⟩ := cal_t e10
  refine e_callV (As := []) (st := []) (a := a3) (ci := 9) false dX6_readTerm_6 mw_X9_clear (Or.inl ⟨rfl, ml_X6_154⟩) im_X9_clear se_X9_clear (by decide) ga7 gs8 rfl (Nat.le_of_ble_eq_true rfl) en12 (s_X9_clear e10) ?_
  refine a_aload_n dX6_readTerm_9 rfl rfl ?_
  refine a_iconst (v := 0) dX6_readTerm_10 (by decide) ?_
  obtain ⟨⟨ga13, gs14⟩, h⟩ := gd_t h
  refine a_putI dX6_readTerm_11 (Or.inl ⟨fl_6_157, Or.inl rfl⟩) rfl ga13 gs14 rfl rfl ?_
  refine a_aload_n dX6_readTerm_14 rfl rfl ?_
  refine a_iconst (v := 0) dX6_readTerm_15 (by decide) ?_
  refine a_putI dX6_readTerm_16 (Or.inl ⟨fl_6_160, Or.inl rfl⟩) rfl ga13 gs14 rfl rfl ?_
  refine a_aload_n dX6_readTerm_19 rfl rfl ?_
  refine a_iconst (v := 1) dX6_readTerm_20 (by decide) ?_
  obtain ⟨_, M15, e16, h⟩ := bnd2_t h
  obtain ⟨n17, en18, e16⟩ := cal_t e16
  refine e_callV (As := [.int 1]) (st := []) (a := a0) (ci := 6) false dX6_readTerm_21 mw_X6_push (Or.inl ⟨rfl, ml_X6_163⟩) im_X6_push se_X6_push (by decide) ga13 gs14 rfl (Nat.le_of_ble_eq_true rfl) en18 (s_X6_push e16) ?_
  refine a_iconst (v := 0) dX6_readTerm_24 (by decide) ?_
  refine a_istore dX6_readTerm_25 (Nat.le_of_ble_eq_true rfl) (lv2 := [(4, .int 0), (0, .ref a0), (1, .int x1), (2, .ref a2), (3, .ref a3)]) rfl ?_
  exact a_lv (lv2 := [(0, .ref a0), (2, .ref a2), (3, .ref a3), (4, .int 0)]) (fa_cons rfl (fa_cons rfl (fa_cons rfl (fa_cons rfl fa_nil)))) (hJ _ _ _ h)
set_option maxHeartbeats 4000000 in
set_option maxRecDepth 100000 in
noncomputable def T_X6_readTerm_27.{u} {α : Sort u} (J : Nat → List Value → Mem → α) (R : Int32 → Mem → α) (N : α) (n : Nat) (a0 : Nat) (a2 : Nat) (a3 : Nat) (x4 : Int32) (M : Mem) : α := gd (fO M a0 6) N (bnd (M.2.2.2.2 a0 5) N (fun r3 => bnd (aLen M r3) N (fun z5 => if (Int32.ofNat z5) ≤ x4 then bnd2 (cal n (fun n => f_X6_readEnd n a0 M)) N (fun v12 M13 => gd (narrow .boolean (.int v12) = .int v12) N (R v12 M13)) else if (M.2.2.1 a0 6) ≤ 0 then bnd2 (cal n (fun n => f_X6_readEnd n a0 M)) N (fun v19 M20 => gd (narrow .boolean (.int v19) = .int v19) N (R v19 M20)) else bnd2 (cal n (fun n => f_X6_pop n a0 M)) N (fun v25 M26 => gd (fO M26 a0 6) N (bnd2 (cal n (fun n => f_X6_readWanted n a0 v25 a2 a3 M26)) N (fun v32 M33 => if v32 = 0 then R 0 M33 else J 27 [.ref a0, .ref a2, .ref a3, .int (x4 + 1)] M33))))))
set_option maxHeartbeats 4000000 in
set_option maxRecDepth 100000 in
theorem n_X6_readTerm_27.{u, v} {α : Sort u} {β : Sort v} (h : α → β) (J : Nat → List Value → Mem → α) (R : Int32 → Mem → α) (N : α) (n : Nat) (a0 : Nat) (a2 : Nat) (a3 : Nat) (x4 : Int32) (M : Mem) : h (T_X6_readTerm_27 J R N n a0 a2 a3 x4 M) = T_X6_readTerm_27 (fun c l M => h (J c l M)) (fun v M => h (R v M)) (h N) n a0 a2 a3 x4 M := by
  simp only [T_X6_readTerm_27, nat_ite h, nat_gd h, nat_bnd h, nat_bnd2 h]
set_option maxHeartbeats 4000000 in
set_option maxRecDepth 100000 in
theorem w_X6_readTerm_27 {X : Nat × (Nat → Int32)} {al : Bool} {n : Nat} {Q : Option Value → Mem → Prop} {J : Nat → List Value → Mem → Prop} (hJ : ∀ c l M, J c l M → PW_X6_readTerm X al n Q c l M) {R : Int32 → Mem → Prop} (hR : ∀ v M, R v M → Q (some (.int v)) M) {a0 : Nat} {a2 : Nat} {a3 : Nat} {x4 : Int32} {M : Mem} (h : T_X6_readTerm_27 J R False n a0 a2 a3 x4 M) : AW X (RX6, cX6_readTerm, 5, (some .boolean), false, al, n) 0 0 27 [(0, .ref a0), (2, .ref a2), (3, .ref a3), (4, .int x4)] [] M Q := by
  unfold T_X6_readTerm_27 at h
  refine a_iload dX6_readTerm_27 rfl ?_
  refine a_aload_n dX6_readTerm_29 rfl rfl ?_
  obtain ⟨⟨ga1, gs2⟩, h⟩ := gd_t h
  obtain ⟨r3, e4, h⟩ := bnd_t h
  refine a_get (v := .ref r3) dX6_readTerm_30 fl_6_26 ga1 gs2 (gvR e4 rfl) ?_
  obtain ⟨z5, e6, h⟩ := bnd_t h
  obtain ⟨ga7, gt8, gu9, gs10⟩ := aLen_t e6
  refine a_alen gu9 dX6_readTerm_33 ga7 gs10 rfl ?_
  refine a_icmp_ge 65 dX6_readTerm_34 (by decide) (fun c11 => ?_) (fun c11 => ?_)
  · replace h := ite_t c11 h
    refine a_aload_n dX6_readTerm_65 rfl rfl ?_
    obtain ⟨v12, M13, e14, h⟩ := bnd2_t h
    obtain ⟨n15, en16, e14⟩ := cal_t e14
    refine e_callV (As := []) (st := []) (a := a0) (ci := 6) false dX6_readTerm_66 mw_X6_readEnd (Or.inl ⟨rfl, ml_X6_135⟩) im_X6_readEnd se_X6_readEnd (by decide) ga1 gs2 rfl (Nat.le_of_ble_eq_true rfl) en16 (s_X6_readEnd e14) ?_
    obtain ⟨gb17, h⟩ := gd_t h
    exact a_zret dX6_readTerm_69 rfl gb17 (hR _ _ h)
  · replace h := ite_f c11 h
    refine a_aload_n dX6_readTerm_37 rfl rfl ?_
    refine a_get (v := .int (M.2.2.1 a0 6)) dX6_readTerm_38 fl_6_157 ga1 gs2 rfl ?_
    refine a_if_le 65 dX6_readTerm_41 (by decide) (fun c18 => ?_) (fun c18 => ?_)
    · replace h := ite_t c18 h
      refine a_aload_n dX6_readTerm_65 rfl rfl ?_
      obtain ⟨v19, M20, e21, h⟩ := bnd2_t h
      obtain ⟨n22, en23, e21⟩ := cal_t e21
      refine e_callV (As := []) (st := []) (a := a0) (ci := 6) false dX6_readTerm_66 mw_X6_readEnd (Or.inl ⟨rfl, ml_X6_135⟩) im_X6_readEnd se_X6_readEnd (by decide) ga1 gs2 rfl (Nat.le_of_ble_eq_true rfl) en23 (s_X6_readEnd e21) ?_
      obtain ⟨gb24, h⟩ := gd_t h
      exact a_zret dX6_readTerm_69 rfl gb24 (hR _ _ h)
    · replace h := ite_f c18 h
      refine a_aload_n dX6_readTerm_44 rfl rfl ?_
      refine a_aload_n dX6_readTerm_45 rfl rfl ?_
      obtain ⟨v25, M26, e27, h⟩ := bnd2_t h
      obtain ⟨n28, en29, e27⟩ := cal_t e27
      refine e_callV (As := []) (st := [.ref a0]) (a := a0) (ci := 6) false dX6_readTerm_46 mw_X6_pop (Or.inl ⟨rfl, ml_X6_166⟩) im_X6_pop se_X6_pop (by decide) ga1 gs2 rfl (Nat.le_of_ble_eq_true rfl) en29 (s_X6_pop e27) ?_
      refine a_aload_n dX6_readTerm_49 rfl rfl ?_
      refine a_aload_n dX6_readTerm_50 rfl rfl ?_
      obtain ⟨⟨ga30, gs31⟩, h⟩ := gd_t h
      obtain ⟨v32, M33, e34, h⟩ := bnd2_t h
      obtain ⟨n35, en36, e34⟩ := cal_t e34
      refine e_callV (As := [.int v25, .ref a2, .ref a3]) (st := []) (a := a0) (ci := 6) false dX6_readTerm_51 mw_X6_readWanted (Or.inl ⟨rfl, ml_X6_169⟩) im_X6_readWanted se_X6_readWanted (by decide) ga30 gs31 rfl (Nat.le_of_ble_eq_true rfl) en36 (s_X6_readWanted e34) ?_
      refine a_if_ne 59 dX6_readTerm_54 (by decide) (fun c37 => ?_) (fun c37 => ?_)
      · replace h := ite_f c37 h
        refine a_iinc (v := (x4 + 1)) dX6_readTerm_59 rfl (by first | rfl | decide) (Nat.le_of_ble_eq_true rfl) (lv2 := [(4, .int (x4 + 1)), (0, .ref a0), (2, .ref a2), (3, .ref a3)]) rfl ?_
        refine a_goto 27 dX6_readTerm_62 (by decide) ?_
        exact a_lv (lv2 := [(0, .ref a0), (2, .ref a2), (3, .ref a3), (4, .int (x4 + 1))]) (fa_cons rfl (fa_cons rfl (fa_cons rfl (fa_cons rfl fa_nil)))) (hJ _ _ _ h)
      · replace h := ite_t c37 h
        refine a_iconst (v := 0) dX6_readTerm_57 (by decide) ?_
        exact a_zret dX6_readTerm_58 rfl rfl (hR _ _ h)
set_option maxHeartbeats 4000000 in
set_option maxRecDepth 100000 in
noncomputable def st_X6_readTerm (n : Nat) (s : Sg) : Option (Sg ⊕ (Int32 × Mem)) := if s.1 = 0 then vR s.2.1 none (fun a0 t => vI t none (fun x1 t => vR t none (fun a2 t => vR t none (fun a3 t => vE t none (T_X6_readTerm_0 (fun c l M => some (.inl (c, l, M))) (fun v M => some (.inr (v, M))) none n a0 x1 a2 a3 s.2.2))))) else if s.1 = 27 then vR s.2.1 none (fun a0 t => vR t none (fun a2 t => vR t none (fun a3 t => vI t none (fun x4 t => vE t none (T_X6_readTerm_27 (fun c l M => some (.inl (c, l, M))) (fun v M => some (.inr (v, M))) none n a0 a2 a3 x4 s.2.2))))) else none
noncomputable abbrev g_X6_readTerm_0 (n : Nat) (a0 : Nat) (x1 : Int32) (a2 : Nat) (a3 : Nat) (M : Mem) : Option (Int32 × Mem) := lp (st_X6_readTerm n) (0, [.ref a0, .int x1, .ref a2, .ref a3], M)
set_option maxHeartbeats 4000000 in
set_option maxRecDepth 100000 in
theorem ge_X6_readTerm_0 (n : Nat) (a0 : Nat) (x1 : Int32) (a2 : Nat) (a3 : Nat) (M : Mem) : g_X6_readTerm_0 n a0 x1 a2 a3 M = T_X6_readTerm_0 (fun c l M => lp (st_X6_readTerm n) (c, l, M)) (fun v M => some (v, M)) none n a0 x1 a2 a3 M := (lp_eq _ _).trans (n_X6_readTerm_0 (lpK (st_X6_readTerm n)) (fun c l M => some (.inl (c, l, M))) (fun v M => some (.inr (v, M))) none n a0 x1 a2 a3 M)
noncomputable abbrev g_X6_readTerm_27 (n : Nat) (a0 : Nat) (a2 : Nat) (a3 : Nat) (x4 : Int32) (M : Mem) : Option (Int32 × Mem) := lp (st_X6_readTerm n) (27, [.ref a0, .ref a2, .ref a3, .int x4], M)
set_option maxHeartbeats 4000000 in
set_option maxRecDepth 100000 in
theorem ge_X6_readTerm_27 (n : Nat) (a0 : Nat) (a2 : Nat) (a3 : Nat) (x4 : Int32) (M : Mem) : g_X6_readTerm_27 n a0 a2 a3 x4 M = T_X6_readTerm_27 (fun c l M => lp (st_X6_readTerm n) (c, l, M)) (fun v M => some (v, M)) none n a0 a2 a3 x4 M := (lp_eq _ _).trans (n_X6_readTerm_27 (lpK (st_X6_readTerm n)) (fun c l M => some (.inl (c, l, M))) (fun v M => some (.inr (v, M))) none n a0 a2 a3 x4 M)
noncomputable def b_X6_readTerm (n : Nat) (a0 : Nat) (x1 : Int32) (a2 : Nat) (a3 : Nat) (M : Mem) : Option (Int32 × Mem) := g_X6_readTerm_0 n a0 x1 a2 a3 M
set_option maxHeartbeats 4000000 in
set_option maxRecDepth 100000 in
theorem sb_X6_readTerm {X : Nat × (Nat → Int32)} {al : Bool} {n : Nat} {a0 : Nat} {x1 : Int32} {a2 : Nat} {a3 : Nat} {M : Mem} {v : Int32} {M1 : Mem} (h : b_X6_readTerm n a0 x1 a2 a3 M = some (v, M1)) : AE yX6_readTerm cX6_readTerm 5 (some .boolean) al n X [.ref a0, .int x1, .ref a2, .ref a3] M (some (.int v)) M1 := by
  refine AM.of false (by decide +kernel) (by intro h; cases h) (Nat.le_of_ble_eq_true rfl) ?_
  refine lp_snd (P := fun s r => PW_X6_readTerm X al n (fun v M2 => v = (some (.int r.1)) ∧ M2 = r.2) s.1 s.2.1 s.2.2) ?_ h
  clear h
  rintro ⟨c, l, M⟩ r h
  unfold st_X6_readTerm at h
  rcases ite_p h with ⟨e, h⟩ | ⟨e, h⟩
  · replace e : c = 0 := e
    subst e
    obtain ⟨a0, tt0, e, h⟩ := vR_p id h
    replace e : l = _ := e
    subst e
    obtain ⟨x1, tt1, e, h⟩ := vI_p id h
    replace e : tt0 = _ := e
    subst e
    obtain ⟨a2, tt2, e, h⟩ := vR_p id h
    replace e : tt1 = _ := e
    subst e
    obtain ⟨a3, tt3, e, h⟩ := vR_p id h
    replace e : tt2 = _ := e
    subst e
    obtain ⟨e, h⟩ := vE_p id h
    replace e : tt3 = [] := e
    subst e
    exact w_X6_readTerm_0 (J := fun c l M => PW_X6_readTerm X al n (fun v M2 => v = (some (.int r.1)) ∧ M2 = r.2) c l M) (R := fun v M => (v, M) = r) (fun _ _ _ h => h) (fun v M h => by cases h; exact ⟨rfl, rfl⟩) ((n_X6_readTerm_0 (lpP (fun (s : Sg) (r : Int32 × Mem) => PW_X6_readTerm X al n (fun v M2 => v = (some (.int r.1)) ∧ M2 = r.2) s.1 s.2.1 s.2.2) r) (fun c l M => some (.inl (c, l, M))) (fun v M => some (.inr (v, M))) none n a0 x1 a2 a3 M).mp h)
  rcases ite_p h with ⟨e, h⟩ | ⟨e, h⟩
  · replace e : c = 27 := e
    subst e
    obtain ⟨a0, tt0, e, h⟩ := vR_p id h
    replace e : l = _ := e
    subst e
    obtain ⟨a2, tt1, e, h⟩ := vR_p id h
    replace e : tt0 = _ := e
    subst e
    obtain ⟨a3, tt2, e, h⟩ := vR_p id h
    replace e : tt1 = _ := e
    subst e
    obtain ⟨x4, tt3, e, h⟩ := vI_p id h
    replace e : tt2 = _ := e
    subst e
    obtain ⟨e, h⟩ := vE_p id h
    replace e : tt3 = [] := e
    subst e
    exact w_X6_readTerm_27 (J := fun c l M => PW_X6_readTerm X al n (fun v M2 => v = (some (.int r.1)) ∧ M2 = r.2) c l M) (R := fun v M => (v, M) = r) (fun _ _ _ h => h) (fun v M h => by cases h; exact ⟨rfl, rfl⟩) ((n_X6_readTerm_27 (lpP (fun (s : Sg) (r : Int32 × Mem) => PW_X6_readTerm X al n (fun v M2 => v = (some (.int r.1)) ∧ M2 = r.2) s.1 s.2.1 s.2.2) r) (fun c l M => some (.inl (c, l, M))) (fun v M => some (.inr (v, M))) none n a0 a2 a3 x4 M).mp h)
  · exact h.elim

noncomputable abbrev f_X6_readTerm := b_X6_readTerm
theorem s_X6_readTerm {X : Nat × (Nat → Int32)} {al : Bool} {n : Nat} {a0 : Nat} {x1 : Int32} {a2 : Nat} {a3 : Nat} {M : Mem} {v : Int32} {M1 : Mem} (h : f_X6_readTerm n a0 x1 a2 a3 M = some (v, M1)) : AE yX6_readTerm cX6_readTerm 5 (some .boolean) al n X [.ref a0, .int x1, .ref a2, .ref a3] M (some (.int v)) M1 := sb_X6_readTerm h
set_option maxHeartbeats 4000000 in
set_option maxRecDepth 100000 in
noncomputable def T_X9_opAt_0.{u} {α : Sort u} (R : Int32 → Mem → α) (N : α) (n : Nat) (a0 : Nat) (x1 : Int32) (M : Mem) : α := if x1 < 0 then R (-1) M else gd (fO M a0 9) N (if (M.2.2.1 a0 2) ≤ x1 then R (-1) M else bnd (M.2.2.2.2 a0 0) N (fun r5 => gd (fA M r5 1 x1) N (R (M.2.2.1 r5 (x1.toNatClampNeg)) M)))
set_option maxHeartbeats 4000000 in
set_option maxRecDepth 100000 in
theorem n_X9_opAt_0.{u, v} {α : Sort u} {β : Sort v} (h : α → β) (R : Int32 → Mem → α) (N : α) (n : Nat) (a0 : Nat) (x1 : Int32) (M : Mem) : h (T_X9_opAt_0 R N n a0 x1 M) = T_X9_opAt_0 (fun v M => h (R v M)) (h N) n a0 x1 M := by
  simp only [T_X9_opAt_0, nat_ite h, nat_gd h, nat_bnd h, nat_bnd2 h]
set_option maxHeartbeats 4000000 in
set_option maxRecDepth 100000 in
theorem w_X9_opAt_0 {X : Nat × (Nat → Int32)} {al : Bool} {n : Nat} {Q : Option Value → Mem → Prop} {R : Int32 → Mem → Prop} (hR : ∀ v M, R v M → Q (some (.int v)) M) {a0 : Nat} {x1 : Int32} {M : Mem} (h : T_X9_opAt_0 R False n a0 x1 M) : AW X (RX9, cX9_opAt, 2, (some .int), false, al, n) 0 0 0 [(0, .ref a0), (1, .int x1)] [] M Q := by
  unfold T_X9_opAt_0 at h
  refine a_iload_n dX9_opAt_0 rfl rfl ?_
  refine a_if_lt 21 dX9_opAt_1 (by decide) (fun c1 => ?_) (fun c1 => ?_)
  · replace h := ite_t c1 h
    refine a_iconst (v := -1) dX9_opAt_21 (by decide) ?_
    exact a_iret dX9_opAt_22 rfl (hR _ _ h)
  · replace h := ite_f c1 h
    refine a_iload_n dX9_opAt_4 rfl rfl ?_
    refine a_aload_n dX9_opAt_5 rfl rfl ?_
    obtain ⟨⟨ga2, gs3⟩, h⟩ := gd_t h
    refine a_get (v := .int (M.2.2.1 a0 2)) dX9_opAt_6 fl_9_18 ga2 gs3 rfl ?_
    refine a_icmp_ge 21 dX9_opAt_9 (by decide) (fun c4 => ?_) (fun c4 => ?_)
    · replace h := ite_t c4 h
      refine a_iconst (v := -1) dX9_opAt_21 (by decide) ?_
      exact a_iret dX9_opAt_22 rfl (hR _ _ h)
    · replace h := ite_f c4 h
      refine a_aload_n dX9_opAt_12 rfl rfl ?_
      obtain ⟨r5, e6, h⟩ := bnd_t h
      refine a_get (v := .ref r5) dX9_opAt_13 fl_9_9 ga2 gs3 (gvR e6 rfl) ?_
      refine a_iload_n dX9_opAt_16 rfl rfl ?_
      obtain ⟨⟨ga7, gn8, gs9, gi10⟩, h⟩ := gd_t h
      refine a_iaload dX9_opAt_17 ga7 gs9 gi10 ?_
      refine a_goto 22 dX9_opAt_18 (by decide) ?_
      exact a_iret dX9_opAt_22 rfl (hR _ _ h)
noncomputable def b_X9_opAt (n : Nat) (a0 : Nat) (x1 : Int32) (M : Mem) : Option (Int32 × Mem) := T_X9_opAt_0 (fun v M => some (v, M)) none n a0 x1 M
set_option maxHeartbeats 4000000 in
set_option maxRecDepth 100000 in
theorem sb_X9_opAt {X : Nat × (Nat → Int32)} {al : Bool} {n : Nat} {a0 : Nat} {x1 : Int32} {M : Mem} {v : Int32} {M1 : Mem} (h : b_X9_opAt n a0 x1 M = some (v, M1)) : AE yX9_opAt cX9_opAt 2 (some .int) al n X [.ref a0, .int x1] M (some (.int v)) M1 := by
  refine AM.of false (by decide +kernel) (by intro h; cases h) (Nat.le_of_ble_eq_true rfl) ?_
  have h2 : T_X9_opAt_0 (fun v2 M2 => some (v2, M2) = some (v, M1)) (none = some (v, M1)) n a0 x1 M := (n_X9_opAt_0 (fun o => o = some (v, M1)) (fun v M => some (v, M)) none n a0 x1 M).mp h
  have h3 : ((none : Option (Int32 × Mem)) = some (v, M1)) = False := eq_false (by intro q; cases q)
  rw [h3] at h2
  exact w_X9_opAt_0 (fun v2 M2 h => by cases h; exact ⟨rfl, rfl⟩) h2

noncomputable abbrev f_X9_opAt := b_X9_opAt
theorem s_X9_opAt {X : Nat × (Nat → Int32)} {al : Bool} {n : Nat} {a0 : Nat} {x1 : Int32} {M : Mem} {v : Int32} {M1 : Mem} (h : f_X9_opAt n a0 x1 M = some (v, M1)) : AE yX9_opAt cX9_opAt 2 (some .int) al n X [.ref a0, .int x1] M (some (.int v)) M1 := sb_X9_opAt h
set_option maxHeartbeats 4000000 in
set_option maxRecDepth 100000 in
noncomputable def T_X3_endOf_0.{u} {α : Sort u} (R : Int32 → Mem → α) (N : α) (n : Nat) (a0 : Nat) (x1 : Int32) (M : Mem) : α := if x1 < 0 then R 200 M else if 200 ≤ x1 then R 200 M else gd (fO M a0 3) N (bnd (M.2.2.2.2 a0 3) N (fun r5 => gd (fA M r5 1 x1) N (R (M.2.2.1 r5 (x1.toNatClampNeg)) M)))
set_option maxHeartbeats 4000000 in
set_option maxRecDepth 100000 in
theorem n_X3_endOf_0.{u, v} {α : Sort u} {β : Sort v} (h : α → β) (R : Int32 → Mem → α) (N : α) (n : Nat) (a0 : Nat) (x1 : Int32) (M : Mem) : h (T_X3_endOf_0 R N n a0 x1 M) = T_X3_endOf_0 (fun v M => h (R v M)) (h N) n a0 x1 M := by
  simp only [T_X3_endOf_0, nat_ite h, nat_gd h, nat_bnd h, nat_bnd2 h]
set_option maxHeartbeats 4000000 in
set_option maxRecDepth 100000 in
theorem w_X3_endOf_0 {X : Nat × (Nat → Int32)} {al : Bool} {n : Nat} {Q : Option Value → Mem → Prop} {R : Int32 → Mem → Prop} (hR : ∀ v M, R v M → Q (some (.int v)) M) {a0 : Nat} {x1 : Int32} {M : Mem} (h : T_X3_endOf_0 R False n a0 x1 M) : AW X (RX3, cX3_endOf, 2, (some .int), false, al, n) 0 0 0 [(0, .ref a0), (1, .int x1)] [] M Q := by
  unfold T_X3_endOf_0 at h
  refine a_iload_n dX3_endOf_0 rfl rfl ?_
  refine a_if_lt 20 dX3_endOf_1 (by decide) (fun c1 => ?_) (fun c1 => ?_)
  · replace h := ite_t c1 h
    refine a_sipush (v := 200) dX3_endOf_20 (by decide) ?_
    exact a_iret dX3_endOf_23 rfl (hR _ _ h)
  · replace h := ite_f c1 h
    refine a_iload_n dX3_endOf_4 rfl rfl ?_
    refine a_sipush (v := 200) dX3_endOf_5 (by decide) ?_
    refine a_icmp_ge 20 dX3_endOf_8 (by decide) (fun c2 => ?_) (fun c2 => ?_)
    · replace h := ite_t c2 h
      refine a_sipush (v := 200) dX3_endOf_20 (by decide) ?_
      exact a_iret dX3_endOf_23 rfl (hR _ _ h)
    · replace h := ite_f c2 h
      refine a_aload_n dX3_endOf_11 rfl rfl ?_
      obtain ⟨⟨ga3, gs4⟩, h⟩ := gd_t h
      obtain ⟨r5, e6, h⟩ := bnd_t h
      refine a_get (v := .ref r5) dX3_endOf_12 fl_3_9 ga3 gs4 (gvR e6 rfl) ?_
      refine a_iload_n dX3_endOf_15 rfl rfl ?_
      obtain ⟨⟨ga7, gn8, gs9, gi10⟩, h⟩ := gd_t h
      refine a_iaload dX3_endOf_16 ga7 gs9 gi10 ?_
      refine a_goto 23 dX3_endOf_17 (by decide) ?_
      exact a_iret dX3_endOf_23 rfl (hR _ _ h)
noncomputable def b_X3_endOf (n : Nat) (a0 : Nat) (x1 : Int32) (M : Mem) : Option (Int32 × Mem) := T_X3_endOf_0 (fun v M => some (v, M)) none n a0 x1 M
set_option maxHeartbeats 4000000 in
set_option maxRecDepth 100000 in
theorem sb_X3_endOf {X : Nat × (Nat → Int32)} {al : Bool} {n : Nat} {a0 : Nat} {x1 : Int32} {M : Mem} {v : Int32} {M1 : Mem} (h : b_X3_endOf n a0 x1 M = some (v, M1)) : AE yX3_endOf cX3_endOf 2 (some .int) al n X [.ref a0, .int x1] M (some (.int v)) M1 := by
  refine AM.of false (by decide +kernel) (by intro h; cases h) (Nat.le_of_ble_eq_true rfl) ?_
  have h2 : T_X3_endOf_0 (fun v2 M2 => some (v2, M2) = some (v, M1)) (none = some (v, M1)) n a0 x1 M := (n_X3_endOf_0 (fun o => o = some (v, M1)) (fun v M => some (v, M)) none n a0 x1 M).mp h
  have h3 : ((none : Option (Int32 × Mem)) = some (v, M1)) = False := eq_false (by intro q; cases q)
  rw [h3] at h2
  exact w_X3_endOf_0 (fun v2 M2 h => by cases h; exact ⟨rfl, rfl⟩) h2

noncomputable abbrev f_X3_endOf := b_X3_endOf
theorem s_X3_endOf {X : Nat × (Nat → Int32)} {al : Bool} {n : Nat} {a0 : Nat} {x1 : Int32} {M : Mem} {v : Int32} {M1 : Mem} (h : f_X3_endOf n a0 x1 M = some (v, M1)) : AE yX3_endOf cX3_endOf 2 (some .int) al n X [.ref a0, .int x1] M (some (.int v)) M1 := sb_X3_endOf h
