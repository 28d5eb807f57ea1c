/-! METHODS AS FUNCTIONS, written by wip/gen/shallow.py -/
def ix_X11_puts (c : Nat) : List Nat := if c = 0 then [0, 1, 2, 3] else if c = 17 then [0, 2, 3, 4, 5, 6] else if c = 67 then [0, 2, 3, 4, 5, 6] else []
def PW_X11_puts (X : Nat × (Nat → Int32)) (al : Bool) (n : Nat) (Q : Option Value → Mem → Prop) (c : Nat) (l : List Value) (M : Mem) : Prop := AW X (RX11, cX11_puts, 7, none, false, al, n) 0 0 c (List.zip (ix_X11_puts c) l) (l.drop (ix_X11_puts c).length) M Q
set_option maxHeartbeats 4000000 in
set_option maxRecDepth 100000 in
noncomputable def T_X11_puts_0.{u} {α : Sort u} (J : Nat → List Value → Mem → α) (R : Unit → Mem → α) (N : α) (n : Nat) (a0 : Nat) (x1 : Int32) (x2 : Int32) (x3 : Int32) (M : Mem) : α := gd (fO M a0 11) N (bnd2 (cal n (fun n => f_X11_behind n a0 x1 M)) N (fun v3 M4 => gd (fO M4 a0 11) N (bnd2 (cal n (fun n => f_X11_behind n a0 x3 M4)) N (fun v10 M11 => J 17 [.ref a0, .int x2, .int x3, .int v3, .int v10, .int x1] M11))))
set_option maxHeartbeats 4000000 in
set_option maxRecDepth 100000 in
theorem n_X11_puts_0.{u, v} {α : Sort u} {β : Sort v} (h : α → β) (J : Nat → List Value → Mem → α) (R : Unit → Mem → α) (N : α) (n : Nat) (a0 : Nat) (x1 : Int32) (x2 : Int32) (x3 : Int32) (M : Mem) : h (T_X11_puts_0 J R N n a0 x1 x2 x3 M) = T_X11_puts_0 (fun c l M => h (J c l M)) (fun v M => h (R v M)) (h N) n a0 x1 x2 x3 M := by
  simp only [T_X11_puts_0, nat_ite h, nat_gd h, nat_bnd h, nat_bnd2 h]
set_option maxHeartbeats 4000000 in
set_option maxRecDepth 100000 in
theorem w_X11_puts_0 {X : Nat × (Nat → Int32)} {al : Bool} {n : Nat} {Q : Option Value → Mem → Prop} {J : Nat → List Value → Mem → Prop} (hJ : ∀ c l M, J c l M → PW_X11_puts X al n Q c l M) {R : Unit → Mem → Prop} (hR : ∀ v M, R v M → Q none M) {a0 : Nat} {x1 : Int32} {x2 : Int32} {x3 : Int32} {M : Mem} (h : T_X11_puts_0 J R False n a0 x1 x2 x3 M) : AW X (RX11, cX11_puts, 7, none, false, al, n) 0 0 0 [(0, .ref a0), (1, .int x1), (2, .int x2), (3, .int x3)] [] M Q := by
  unfold T_X11_puts_0 at h
  refine a_aload_n dX11_puts_0 rfl rfl ?_
  refine a_iload_n dX11_puts_1 rfl rfl ?_
  obtain ⟨⟨ga1, gs2⟩, h⟩ := gd_t h
  obtain ⟨v3, M4, e5, h⟩ := bnd2_t h
  obtain ⟨n6, en7, e5⟩ := cal_t e5
  refine e_callV (As := [.int x1]) (st := []) (a := a0) (ci := 11) false dX11_puts_2 mw_X11_behind (Or.inl ⟨rfl, ml_X11_309⟩) im_X11_behind se_X11_behind (by decide) ga1 gs2 rfl (Nat.le_of_ble_eq_true rfl) en7 (s_X11_behind e5) ?_
  refine a_istore dX11_puts_5 (Nat.le_of_ble_eq_true rfl) (lv2 := [(4, .int v3), (0, .ref a0), (1, .int x1), (2, .int x2), (3, .int x3)]) rfl ?_
  refine a_aload_n dX11_puts_7 rfl rfl ?_
  refine a_iload_n dX11_puts_8 rfl rfl ?_
  obtain ⟨⟨ga8, gs9⟩, h⟩ := gd_t h
  obtain ⟨v10, M11, e12, h⟩ := bnd2_t h
  obtain ⟨n13, en14, e12⟩ := cal_t e12
  refine e_callV (As := [.int x3]) (st := []) (a := a0) (ci := 11) false dX11_puts_9 mw_X11_behind (Or.inl ⟨rfl, ml_X11_309⟩) im_X11_behind se_X11_behind (by decide) ga8 gs9 rfl (Nat.le_of_ble_eq_true rfl) en14 (s_X11_behind e12) ?_
  refine a_istore dX11_puts_12 (Nat.le_of_ble_eq_true rfl) (lv2 := [(5, .int v10), (4, .int v3), (0, .ref a0), (1, .int x1), (2, .int x2), (3, .int x3)]) rfl ?_
  refine a_iload_n dX11_puts_14 rfl rfl ?_
  refine a_istore dX11_puts_15 (Nat.le_of_ble_eq_true rfl) (lv2 := [(6, .int x1), (5, .int v10), (4, .int v3), (0, .ref a0), (1, .int x1), (2, .int x2), (3, .int x3)]) rfl ?_
  exact a_lv (lv2 := [(0, .ref a0), (2, .int x2), (3, .int x3), (4, .int v3), (5, .int v10), (6, .int x1)]) (fa_cons rfl (fa_cons rfl (fa_cons rfl (fa_cons rfl (fa_cons rfl (fa_cons rfl fa_nil)))))) (hJ _ _ _ h)
set_option maxHeartbeats 4000000 in
set_option maxRecDepth 100000 in
noncomputable def T_X11_puts_17.{u} {α : Sort u} (J : Nat → List Value → Mem → α) (R : Unit → Mem → α) (N : α) (n : Nat) (a0 : Nat) (x2 : Int32) (x3 : Int32) (x4 : Int32) (x5 : Int32) (x6 : Int32) (M : Mem) : α := if x4 ≤ x6 then R () M else gd (fO M a0 11) N (bnd (M.2.2.2.2 a0 20) N (fun r4 => gd (fA M r4 1 x6) N (if (M.2.2.1 r4 (x6.toNatClampNeg)) = 0 then bnd (M.2.2.2.2 a0 21) N (fun r11 => gd (fA M r11 1 x6) N (if (M.2.2.1 r11 (x6.toNatClampNeg)) = x2 then bnd (M.2.2.2.2 a0 41) N (fun r18 => gd (fA M r18 1 x6) N (bnd2 (cal n (fun n => f_X11_copies n a0 x3 x5 x2 (((M.2.2.1 r18 (x6.toNatClampNeg)) - 1) - x2) M)) N (fun _ M24 => J 17 [.ref a0, .int x2, .int x3, .int x4, .int x5, .int (x6 + 1)] M24))) else J 67 [.ref a0, .int x2, .int x3, .int x4, .int x5, .int x6] M)) else J 67 [.ref a0, .int x2, .int x3, .int x4, .int x5, .int x6] M)))
set_option maxHeartbeats 4000000 in
set_option maxRecDepth 100000 in
theorem n_X11_puts_17.{u, v} {α : Sort u} {β : Sort v} (h : α → β) (J : Nat → List Value → Mem → α) (R : Unit → Mem → α) (N : α) (n : Nat) (a0 : Nat) (x2 : Int32) (x3 : Int32) (x4 : Int32) (x5 : Int32) (x6 : Int32) (M : Mem) : h (T_X11_puts_17 J R N n a0 x2 x3 x4 x5 x6 M) = T_X11_puts_17 (fun c l M => h (J c l M)) (fun v M => h (R v M)) (h N) n a0 x2 x3 x4 x5 x6 M := by
  simp only [T_X11_puts_17, nat_ite h, nat_gd h, nat_bnd h, nat_bnd2 h]
set_option maxHeartbeats 4000000 in
set_option maxRecDepth 100000 in
theorem w_X11_puts_17 {X : Nat × (Nat → Int32)} {al : Bool} {n : Nat} {Q : Option Value → Mem → Prop} {J : Nat → List Value → Mem → Prop} (hJ : ∀ c l M, J c l M → PW_X11_puts X al n Q c l M) {R : Unit → Mem → Prop} (hR : ∀ v M, R v M → Q none M) {a0 : Nat} {x2 : Int32} {x3 : Int32} {x4 : Int32} {x5 : Int32} {x6 : Int32} {M : Mem} (h : T_X11_puts_17 J R False n a0 x2 x3 x4 x5 x6 M) : AW X (RX11, cX11_puts, 7, none, false, al, n) 0 0 17 [(0, .ref a0), (2, .int x2), (3, .int x3), (4, .int x4), (5, .int x5), (6, .int x6)] [] M Q := by
  unfold T_X11_puts_17 at h
  refine a_iload dX11_puts_17 rfl ?_
  refine a_iload dX11_puts_19 rfl ?_
  refine a_icmp_ge 85 dX11_puts_21 (by decide) (fun c1 => ?_) (fun c1 => ?_)
  · replace h := ite_t c1 h
    exact a_vret dX11_puts_85 rfl (hR _ _ h)
  · replace h := ite_f c1 h
    refine a_aload_n dX11_puts_24 rfl rfl ?_
    obtain ⟨⟨ga2, gs3⟩, h⟩ := gd_t h
    obtain ⟨r4, e5, h⟩ := bnd_t h
    refine a_get (v := .ref r4) dX11_puts_25 fl_11_59 ga2 gs3 (gvR e5 rfl) ?_
    refine a_iload dX11_puts_28 rfl ?_
    obtain ⟨⟨ga6, gn7, gs8, gi9⟩, h⟩ := gd_t h
    refine a_iaload dX11_puts_30 ga6 gs8 gi9 ?_
    refine a_if_ne 67 dX11_puts_31 (by decide) (fun c10 => ?_) (fun c10 => ?_)
    · replace h := ite_f c10 h
      exact a_lv (lv2 := [(0, .ref a0), (2, .int x2), (3, .int x3), (4, .int x4), (5, .int x5), (6, .int x6)]) (fa_cons rfl (fa_cons rfl (fa_cons rfl (fa_cons rfl (fa_cons rfl (fa_cons rfl fa_nil)))))) (hJ _ _ _ h)
    · replace h := ite_t c10 h
      refine a_aload_n dX11_puts_34 rfl rfl ?_
      obtain ⟨r11, e12, h⟩ := bnd_t h
      refine a_get (v := .ref r11) dX11_puts_35 fl_11_62 ga2 gs3 (gvR e12 rfl) ?_
      refine a_iload dX11_puts_38 rfl ?_
      obtain ⟨⟨ga13, gn14, gs15, gi16⟩, h⟩ := gd_t h
      refine a_iaload dX11_puts_40 ga13 gs15 gi16 ?_
      refine a_iload_n dX11_puts_41 rfl rfl ?_
      refine a_icmp_ne 67 dX11_puts_42 (by decide) (fun c17 => ?_) (fun c17 => ?_)
      · replace h := ite_f c17 h
        exact a_lv (lv2 := [(0, .ref a0), (2, .int x2), (3, .int x3), (4, .int x4), (5, .int x5), (6, .int x6)]) (fa_cons rfl (fa_cons rfl (fa_cons rfl (fa_cons rfl (fa_cons rfl (fa_cons rfl fa_nil)))))) (hJ _ _ _ h)
      · replace h := ite_t c17 h
        refine a_aload_n dX11_puts_45 rfl rfl ?_
        refine a_iload_n dX11_puts_46 rfl rfl ?_
        refine a_iload dX11_puts_47 rfl ?_
        refine a_iload_n dX11_puts_49 rfl rfl ?_
        refine a_aload_n dX11_puts_50 rfl rfl ?_
        obtain ⟨r18, e19, h⟩ := bnd_t h
        refine a_get (v := .ref r18) dX11_puts_51 fl_11_90 ga2 gs3 (gvR e19 rfl) ?_
        refine a_iload dX11_puts_54 rfl ?_
        obtain ⟨⟨ga20, gn21, gs22, gi23⟩, h⟩ := gd_t h
        refine a_iaload dX11_puts_56 ga20 gs22 gi23 ?_
        refine a_iconst (v := 1) dX11_puts_57 (by decide) ?_
        refine a_isub dX11_puts_58 ?_
        refine a_iload_n dX11_puts_59 rfl rfl ?_
        refine a_isub dX11_puts_60 ?_
        obtain ⟨_, M24, e25, h⟩ := bnd2_t h
        obtain ⟨n26, en27, e25⟩ := cal_t e25
        refine e_callV (As := [.int x3, .int x5, .int x2, .int (((M.2.2.1 r18 (x6.toNatClampNeg)) - 1) - x2)]) (st := []) (a := a0) (ci := 11) false dX11_puts_61 mw_X11_copies (Or.inl ⟨rfl, ml_X11_312⟩) im_X11_copies se_X11_copies (by decide) ga2 gs3 rfl (Nat.le_of_ble_eq_true rfl) en27 (s_X11_copies e25) ?_
        refine a_goto 79 dX11_puts_64 (by decide) ?_
        refine a_iinc (v := (x6 + 1)) dX11_puts_79 rfl (by first | rfl | decide) (Nat.le_of_ble_eq_true rfl) (lv2 := [(6, .int (x6 + 1)), (0, .ref a0), (2, .int x2), (3, .int x3), (4, .int x4), (5, .int x5)]) rfl ?_
        refine a_goto 17 dX11_puts_82 (by decide) ?_
        exact a_lv (lv2 := [(0, .ref a0), (2, .int x2), (3, .int x3), (4, .int x4), (5, .int x5), (6, .int (x6 + 1))]) (fa_cons rfl (fa_cons rfl (fa_cons rfl (fa_cons rfl (fa_cons rfl (fa_cons rfl fa_nil)))))) (hJ _ _ _ h)
set_option maxHeartbeats 4000000 in
set_option maxRecDepth 100000 in
noncomputable def T_X11_puts_67.{u} {α : Sort u} (J : Nat → List Value → Mem → α) (R : Unit → Mem → α) (N : α) (n : Nat) (a0 : Nat) (x2 : Int32) (x3 : Int32) (x4 : Int32) (x5 : Int32) (x6 : Int32) (M : Mem) : α := gd (fO M a0 11) N (bnd2 (cal n (fun n => f_X11_copies n a0 x6 (x6 + 1) x2 (-1) M)) N (fun _ M3 => J 17 [.ref a0, .int x2, .int x3, .int x4, .int x5, .int (x6 + 1)] M3))
set_option maxHeartbeats 4000000 in
set_option maxRecDepth 100000 in
theorem n_X11_puts_67.{u, v} {α : Sort u} {β : Sort v} (h : α → β) (J : Nat → List Value → Mem → α) (R : Unit → Mem → α) (N : α) (n : Nat) (a0 : Nat) (x2 : Int32) (x3 : Int32) (x4 : Int32) (x5 : Int32) (x6 : Int32) (M : Mem) : h (T_X11_puts_67 J R N n a0 x2 x3 x4 x5 x6 M) = T_X11_puts_67 (fun c l M => h (J c l M)) (fun v M => h (R v M)) (h N) n a0 x2 x3 x4 x5 x6 M := by
  simp only [T_X11_puts_67, nat_ite h, nat_gd h, nat_bnd h, nat_bnd2 h]
set_option maxHeartbeats 4000000 in
set_option maxRecDepth 100000 in
theorem w_X11_puts_67 {X : Nat × (Nat → Int32)} {al : Bool} {n : Nat} {Q : Option Value → Mem → Prop} {J : Nat → List Value → Mem → Prop} (hJ : ∀ c l M, J c l M → PW_X11_puts X al n Q c l M) {R : Unit → Mem → Prop} (hR : ∀ v M, R v M → Q none M) {a0 : Nat} {x2 : Int32} {x3 : Int32} {x4 : Int32} {x5 : Int32} {x6 : Int32} {M : Mem} (h : T_X11_puts_67 J R False n a0 x2 x3 x4 x5 x6 M) : AW X (RX11, cX11_puts, 7, none, false, al, n) 0 0 67 [(0, .ref a0), (2, .int x2), (3, .int x3), (4, .int x4), (5, .int x5), (6, .int x6)] [] M Q := by
  unfold T_X11_puts_67 at h
  refine a_aload_n dX11_puts_67 rfl rfl ?_
  refine a_iload dX11_puts_68 rfl ?_
  refine a_iload dX11_puts_70 rfl ?_
  refine a_iconst (v := 1) dX11_puts_72 (by decide) ?_
  refine a_iadd dX11_puts_73 ?_
  refine a_iload_n dX11_puts_74 rfl rfl ?_
  refine a_iconst (v := -1) dX11_puts_75 (by decide) ?_
  obtain ⟨⟨ga1, gs2⟩, h⟩ := gd_t h
  obtain ⟨_, M3, e4, h⟩ := bnd2_t h
  obtain ⟨n5, en6, e4⟩ := cal_t e4
  refine e_callV (As := [.int x6, .int (x6 + 1), .int x2, .int (-1)]) (st := []) (a := a0) (ci := 11) false dX11_puts_76 mw_X11_copies (Or.inl ⟨rfl, ml_X11_312⟩) im_X11_copies se_X11_copies (by decide) ga1 gs2 rfl (Nat.le_of_ble_eq_true rfl) en6 (s_X11_copies e4) ?_
  refine a_iinc (v := (x6 + 1)) dX11_puts_79 rfl (by first | rfl | decide) (Nat.le_of_ble_eq_true rfl) (lv2 := [(6, .int (x6 + 1)), (0, .ref a0), (2, .int x2), (3, .int x3), (4, .int x4), (5, .int x5)]) rfl ?_
  refine a_goto 17 dX11_puts_82 (by decide) ?_
  exact a_lv (lv2 := [(0, .ref a0), (2, .int x2), (3, .int x3), (4, .int x4), (5, .int x5), (6, .int (x6 + 1))]) (fa_cons rfl (fa_cons rfl (fa_cons rfl (fa_cons rfl (fa_cons rfl (fa_cons rfl fa_nil)))))) (hJ _ _ _ h)
set_option maxHeartbeats 4000000 in
set_option maxRecDepth 100000 in
noncomputable def st_X11_puts (n : Nat) (s : Sg) : Option (Sg ⊕ (Unit × Mem)) := if s.1 = 0 then vR s.2.1 none (fun a0 t => vI t none (fun x1 t => vI t none (fun x2 t => vI t none (fun x3 t => vE t none (T_X11_puts_0 (fun c l M => some (.inl (c, l, M))) (fun v M => some (.inr (v, M))) none n a0 x1 x2 x3 s.2.2))))) else if s.1 = 17 then vR s.2.1 none (fun a0 t => vI t none (fun x2 t => vI t none (fun x3 t => vI t none (fun x4 t => vI t none (fun x5 t => vI t none (fun x6 t => vE t none (T_X11_puts_17 (fun c l M => some (.inl (c, l, M))) (fun v M => some (.inr (v, M))) none n a0 x2 x3 x4 x5 x6 s.2.2))))))) else if s.1 = 67 then vR s.2.1 none (fun a0 t => vI t none (fun x2 t => vI t none (fun x3 t => vI t none (fun x4 t => vI t none (fun x5 t => vI t none (fun x6 t => vE t none (T_X11_puts_67 (fun c l M => some (.inl (c, l, M))) (fun v M => some (.inr (v, M))) none n a0 x2 x3 x4 x5 x6 s.2.2))))))) else none
noncomputable abbrev g_X11_puts_0 (n : Nat) (a0 : Nat) (x1 : Int32) (x2 : Int32) (x3 : Int32) (M : Mem) : Option (Unit × Mem) := lp (st_X11_puts n) (0, [.ref a0, .int x1, .int x2, .int x3], M)
set_option maxHeartbeats 4000000 in
set_option maxRecDepth 100000 in
theorem ge_X11_puts_0 (n : Nat) (a0 : Nat) (x1 : Int32) (x2 : Int32) (x3 : Int32) (M : Mem) : g_X11_puts_0 n a0 x1 x2 x3 M = T_X11_puts_0 (fun c l M => lp (st_X11_puts n) (c, l, M)) (fun v M => some (v, M)) none n a0 x1 x2 x3 M := (lp_eq _ _).trans (n_X11_puts_0 (lpK (st_X11_puts n)) (fun c l M => some (.inl (c, l, M))) (fun v M => some (.inr (v, M))) none n a0 x1 x2 x3 M)
noncomputable abbrev g_X11_puts_17 (n : Nat) (a0 : Nat) (x2 : Int32) (x3 : Int32) (x4 : Int32) (x5 : Int32) (x6 : Int32) (M : Mem) : Option (Unit × Mem) := lp (st_X11_puts n) (17, [.ref a0, .int x2, .int x3, .int x4, .int x5, .int x6], M)
set_option maxHeartbeats 4000000 in
set_option maxRecDepth 100000 in
theorem ge_X11_puts_17 (n : Nat) (a0 : Nat) (x2 : Int32) (x3 : Int32) (x4 : Int32) (x5 : Int32) (x6 : Int32) (M : Mem) : g_X11_puts_17 n a0 x2 x3 x4 x5 x6 M = T_X11_puts_17 (fun c l M => lp (st_X11_puts n) (c, l, M)) (fun v M => some (v, M)) none n a0 x2 x3 x4 x5 x6 M := (lp_eq _ _).trans (n_X11_puts_17 (lpK (st_X11_puts n)) (fun c l M => some (.inl (c, l, M))) (fun v M => some (.inr (v, M))) none n a0 x2 x3 x4 x5 x6 M)
noncomputable abbrev g_X11_puts_67 (n : Nat) (a0 : Nat) (x2 : Int32) (x3 : Int32) (x4 : Int32) (x5 : Int32) (x6 : Int32) (M : Mem) : Option (Unit × Mem) := lp (st_X11_puts n) (67, [.ref a0, .int x2, .int x3, .int x4, .int x5, .int x6], M)
set_option maxHeartbeats 4000000 in
set_option maxRecDepth 100000 in
theorem ge_X11_puts_67 (n : Nat) (a0 : Nat) (x2 : Int32) (x3 : Int32) (x4 : Int32) (x5 : Int32) (x6 : Int32) (M : Mem) : g_X11_puts_67 n a0 x2 x3 x4 x5 x6 M = T_X11_puts_67 (fun c l M => lp (st_X11_puts n) (c, l, M)) (fun v M => some (v, M)) none n a0 x2 x3 x4 x5 x6 M := (lp_eq _ _).trans (n_X11_puts_67 (lpK (st_X11_puts n)) (fun c l M => some (.inl (c, l, M))) (fun v M => some (.inr (v, M))) none n a0 x2 x3 x4 x5 x6 M)
noncomputable def b_X11_puts (n : Nat) (a0 : Nat) (x1 : Int32) (x2 : Int32) (x3 : Int32) (M : Mem) : Option (Unit × Mem) := g_X11_puts_0 n a0 x1 x2 x3 M
set_option maxHeartbeats 4000000 in
set_option maxRecDepth 100000 in
theorem sb_X11_puts {X : Nat × (Nat → Int32)} {al : Bool} {n : Nat} {a0 : Nat} {x1 : Int32} {x2 : Int32} {x3 : Int32} {M : Mem} {v : Unit} {M1 : Mem} (h : b_X11_puts n a0 x1 x2 x3 M = some (v, M1)) : AE yX11_puts cX11_puts 7 none al n X [.ref a0, .int x1, .int x2, .int x3] M none M1 := by
  refine AM.of false (by decide +kernel) (by intro h; cases h) (Nat.le_of_ble_eq_true rfl) ?_
  refine lp_snd (P := fun s r => PW_X11_puts X al n (fun v M2 => v = none ∧ M2 = r.2) s.1 s.2.1 s.2.2) ?_ h
  clear h
  rintro ⟨c, l, M⟩ r h
  unfold st_X11_puts at h
  rcases ite_p h with ⟨e, h⟩ | ⟨e, h⟩
  · replace e : c = 0 := e
    subst e
    obtain ⟨a0, tt0, e, h⟩ := vR_p id h
    replace e : l = _ := e
    subst e
    obtain ⟨x1, tt1, e, h⟩ := vI_p id h
    replace e : tt0 = _ := e
    subst e
    obtain ⟨x2, tt2, e, h⟩ := vI_p id h
    replace e : tt1 = _ := e
    subst e
    obtain ⟨x3, tt3, e, h⟩ := vI_p id h
    replace e : tt2 = _ := e
    subst e
    obtain ⟨e, h⟩ := vE_p id h
    replace e : tt3 = [] := e
    subst e
    exact w_X11_puts_0 (J := fun c l M => PW_X11_puts X al n (fun v M2 => v = none ∧ M2 = r.2) c l M) (R := fun v M => (v, M) = r) (fun _ _ _ h => h) (fun v M h => by cases h; exact ⟨rfl, rfl⟩) ((n_X11_puts_0 (lpP (fun (s : Sg) (r : Unit × Mem) => PW_X11_puts X al n (fun v M2 => v = none ∧ M2 = r.2) s.1 s.2.1 s.2.2) r) (fun c l M => some (.inl (c, l, M))) (fun v M => some (.inr (v, M))) none n a0 x1 x2 x3 M).mp h)
  rcases ite_p h with ⟨e, h⟩ | ⟨e, h⟩
  · replace e : c = 17 := e
    subst e
    obtain ⟨a0, tt0, e, h⟩ := vR_p id h
    replace e : l = _ := e
    subst e
    obtain ⟨x2, tt1, e, h⟩ := vI_p id h
    replace e : tt0 = _ := e
    subst e
    obtain ⟨x3, tt2, e, h⟩ := vI_p id h
    replace e : tt1 = _ := e
    subst e
    obtain ⟨x4, tt3, e, h⟩ := vI_p id h
    replace e : tt2 = _ := e
    subst e
    obtain ⟨x5, tt4, e, h⟩ := vI_p id h
    replace e : tt3 = _ := e
    subst e
    obtain ⟨x6, tt5, e, h⟩ := vI_p id h
    replace e : tt4 = _ := e
    subst e
    obtain ⟨e, h⟩ := vE_p id h
    replace e : tt5 = [] := e
    subst e
    exact w_X11_puts_17 (J := fun c l M => PW_X11_puts X al n (fun v M2 => v = none ∧ M2 = r.2) c l M) (R := fun v M => (v, M) = r) (fun _ _ _ h => h) (fun v M h => by cases h; exact ⟨rfl, rfl⟩) ((n_X11_puts_17 (lpP (fun (s : Sg) (r : Unit × Mem) => PW_X11_puts X al n (fun v M2 => v = none ∧ M2 = r.2) s.1 s.2.1 s.2.2) r) (fun c l M => some (.inl (c, l, M))) (fun v M => some (.inr (v, M))) none n a0 x2 x3 x4 x5 x6 M).mp h)
  rcases ite_p h with ⟨e, h⟩ | ⟨e, h⟩
  · replace e : c = 67 := e
    subst e
    obtain ⟨a0, tt0, e, h⟩ := vR_p id h
    replace e : l = _ := e
    subst e
    obtain ⟨x2, tt1, e, h⟩ := vI_p id h
    replace e : tt0 = _ := e
    subst e
    obtain ⟨x3, tt2, e, h⟩ := vI_p id h
    replace e : tt1 = _ := e
    subst e
    obtain ⟨x4, tt3, e, h⟩ := vI_p id h
    replace e : tt2 = _ := e
    subst e
    obtain ⟨x5, tt4, e, h⟩ := vI_p id h
    replace e : tt3 = _ := e
    subst e
    obtain ⟨x6, tt5, e, h⟩ := vI_p id h
    replace e : tt4 = _ := e
    subst e
    obtain ⟨e, h⟩ := vE_p id h
    replace e : tt5 = [] := e
    subst e
    exact w_X11_puts_67 (J := fun c l M => PW_X11_puts X al n (fun v M2 => v = none ∧ M2 = r.2) c l M) (R := fun v M => (v, M) = r) (fun _ _ _ h => h) (fun v M h => by cases h; exact ⟨rfl, rfl⟩) ((n_X11_puts_67 (lpP (fun (s : Sg) (r : Unit × Mem) => PW_X11_puts X al n (fun v M2 => v = none ∧ M2 = r.2) s.1 s.2.1 s.2.2) r) (fun c l M => some (.inl (c, l, M))) (fun v M => some (.inr (v, M))) none n a0 x2 x3 x4 x5 x6 M).mp h)
  · exact h.elim

noncomputable abbrev f_X11_puts := b_X11_puts
theorem s_X11_puts {X : Nat × (Nat → Int32)} {al : Bool} {n : Nat} {a0 : Nat} {x1 : Int32} {x2 : Int32} {x3 : Int32} {M : Mem} {v : Unit} {M1 : Mem} (h : f_X11_puts n a0 x1 x2 x3 M = some (v, M1)) : AE yX11_puts cX11_puts 7 none al n X [.ref a0, .int x1, .int x2, .int x3] M none M1 := sb_X11_puts h
def ix_X11_turns (c : Nat) : List Nat := if c = 0 then [0] else if c = 10 then [0, 1] else []
def PW_X11_turns (X : Nat × (Nat → Int32)) (al : Bool) (n : Nat) (Q : Option Value → Mem → Prop) (c : Nat) (l : List Value) (M : Mem) : Prop := AW X (RX11, cX11_turns, 2, none, false, al, n) 0 0 c (List.zip (ix_X11_turns c) l) (l.drop (ix_X11_turns c).length) M Q
set_option maxHeartbeats 4000000 in
set_option maxRecDepth 100000 in
noncomputable def T_X11_turns_0.{u} {α : Sort u} (J : Nat → List Value → Mem → α) (R : Unit → Mem → α) (N : α) (n : Nat) (a0 : Nat) (M : Mem) : α := gd (fO M a0 11) N (J 10 [.ref a0, .int 0] (wI M a0 24 (M.2.2.1 a0 25)))
set_option maxHeartbeats 4000000 in
set_option maxRecDepth 100000 in
theorem n_X11_turns_0.{u, v} {α : Sort u} {β : Sort v} (h : α → β) (J : Nat → List Value → Mem → α) (R : Unit → Mem → α) (N : α) (n : Nat) (a0 : Nat) (M : Mem) : h (T_X11_turns_0 J R N n a0 M) = T_X11_turns_0 (fun c l M => h (J c l M)) (fun v M => h (R v M)) (h N) n a0 M := by
  simp only [T_X11_turns_0, nat_ite h, nat_gd h, nat_bnd h, nat_bnd2 h]
set_option maxHeartbeats 4000000 in
set_option maxRecDepth 100000 in
theorem w_X11_turns_0 {X : Nat × (Nat → Int32)} {al : Bool} {n : Nat} {Q : Option Value → Mem → Prop} {J : Nat → List Value → Mem → Prop} (hJ : ∀ c l M, J c l M → PW_X11_turns X al n Q c l M) {R : Unit → Mem → Prop} (hR : ∀ v M, R v M → Q none M) {a0 : Nat} {M : Mem} (h : T_X11_turns_0 J R False n a0 M) : AW X (RX11, cX11_turns, 2, none, false, al, n) 0 0 0 [(0, .ref a0)] [] M Q := by
  unfold T_X11_turns_0 at h
  refine a_aload_n dX11_turns_0 rfl rfl ?_
  refine a_aload_n dX11_turns_1 rfl rfl ?_
  obtain ⟨⟨ga1, gs2⟩, h⟩ := gd_t h
  refine a_get (v := .int (M.2.2.1 a0 25)) dX11_turns_2 fl_11_303 ga1 gs2 rfl ?_
  refine a_putI dX11_turns_5 (Or.inl ⟨fl_11_151, Or.inl rfl⟩) rfl ga1 gs2 rfl rfl ?_
  refine a_iconst (v := 0) dX11_turns_8 (by decide) ?_
  refine a_istore_n dX11_turns_9 rfl (Nat.le_of_ble_eq_true rfl) (lv2 := [(1, .int 0), (0, .ref a0)]) rfl ?_
  exact a_lv (lv2 := [(0, .ref a0), (1, .int 0)]) (fa_cons rfl (fa_cons rfl fa_nil)) (hJ _ _ _ h)
set_option maxHeartbeats 4000000 in
set_option maxRecDepth 100000 in
noncomputable def T_X11_turns_10.{u} {α : Sort u} (J : Nat → List Value → Mem → α) (R : Unit → Mem → α) (N : α) (n : Nat) (a0 : Nat) (x1 : Int32) (M : Mem) : α := gd (fO M a0 11) N (if (M.2.2.1 a0 24) ≤ x1 then R () M else bnd (M.2.2.2.2 a0 20) N (fun r4 => bnd (M.2.2.2.2 a0 22) N (fun r6 => gd (fA M r6 1 x1) N (gd (fA M r4 1 x1) N (bnd (M.2.2.2.2 a0 21) N (fun r16 => bnd (M.2.2.2.2 a0 23) N (fun r18 => gd (fA M r18 1 x1) N (gd (fA M r16 1 x1) N (J 10 [.ref a0, .int (x1 + 1)] (wI (wI M r4 (x1.toNatClampNeg) (M.2.2.1 r6 (x1.toNatClampNeg))) r16 (x1.toNatClampNeg) ((wI M r4 (x1.toNatClampNeg) (M.2.2.1 r6 (x1.toNatClampNeg))).2.2.1 r18 (x1.toNatClampNeg))))))))))))
set_option maxHeartbeats 4000000 in
set_option maxRecDepth 100000 in
theorem n_X11_turns_10.{u, v} {α : Sort u} {β : Sort v} (h : α → β) (J : Nat → List Value → Mem → α) (R : Unit → Mem → α) (N : α) (n : Nat) (a0 : Nat) (x1 : Int32) (M : Mem) : h (T_X11_turns_10 J R N n a0 x1 M) = T_X11_turns_10 (fun c l M => h (J c l M)) (fun v M => h (R v M)) (h N) n a0 x1 M := by
  simp only [T_X11_turns_10, nat_ite h, nat_gd h, nat_bnd h, nat_bnd2 h]
set_option maxHeartbeats 4000000 in
set_option maxRecDepth 100000 in
theorem w_X11_turns_10 {X : Nat × (Nat → Int32)} {al : Bool} {n : Nat} {Q : Option Value → Mem → Prop} {J : Nat → List Value → Mem → Prop} (hJ : ∀ c l M, J c l M → PW_X11_turns X al n Q c l M) {R : Unit → Mem → Prop} (hR : ∀ v M, R v M → Q none M) {a0 : Nat} {x1 : Int32} {M : Mem} (h : T_X11_turns_10 J R False n a0 x1 M) : AW X (RX11, cX11_turns, 2, none, false, al, n) 0 0 10 [(0, .ref a0), (1, .int x1)] [] M Q := by
  unfold T_X11_turns_10 at h
  refine a_iload_n dX11_turns_10 rfl rfl ?_
  refine a_aload_n dX11_turns_11 rfl rfl ?_
  obtain ⟨⟨ga1, gs2⟩, h⟩ := gd_t h
  refine a_get (v := .int (M.2.2.1 a0 24)) dX11_turns_12 fl_11_151 ga1 gs2 rfl ?_
  refine a_icmp_ge 48 dX11_turns_15 (by decide) (fun c3 => ?_) (fun c3 => ?_)
  · replace h := ite_t c3 h
    exact a_vret dX11_turns_48 rfl (hR _ _ h)
  · replace h := ite_f c3 h
    refine a_aload_n dX11_turns_18 rfl rfl ?_
    obtain ⟨r4, e5, h⟩ := bnd_t h
    refine a_get (v := .ref r4) dX11_turns_19 fl_11_59 ga1 gs2 (gvR e5 rfl) ?_
    refine a_iload_n dX11_turns_22 rfl rfl ?_
    refine a_aload_n dX11_turns_23 rfl rfl ?_
    obtain ⟨r6, e7, h⟩ := bnd_t h
    refine a_get (v := .ref r6) dX11_turns_24 fl_11_65 ga1 gs2 (gvR e7 rfl) ?_
    refine a_iload_n dX11_turns_27 rfl rfl ?_
    obtain ⟨⟨ga8, gn9, gs10, gi11⟩, h⟩ := gd_t h
    refine a_iaload dX11_turns_28 ga8 gs10 gi11 ?_
    obtain ⟨⟨ga12, gn13, gs14, gi15⟩, h⟩ := gd_t h
    refine a_iastore dX11_turns_29 ga12 gs14 gi15 ?_
    refine a_aload_n dX11_turns_30 rfl rfl ?_
    obtain ⟨r16, e17, h⟩ := bnd_t h
    refine a_get (v := .ref r16) dX11_turns_31 fl_11_62 ga1 gs2 (gvR e17 rfl) ?_
    refine a_iload_n dX11_turns_34 rfl rfl ?_
    refine a_aload_n dX11_turns_35 rfl rfl ?_
    obtain ⟨r18, e19, h⟩ := bnd_t h
    refine a_get (v := .ref r18) dX11_turns_36 fl_11_68 ga1 gs2 (gvR e19 rfl) ?_
    refine a_iload_n dX11_turns_39 rfl rfl ?_
    obtain ⟨⟨ga20, gn21, gs22, gi23⟩, h⟩ := gd_t h
    refine a_iaload dX11_turns_40 ga20 gs22 gi23 ?_
    obtain ⟨⟨ga24, gn25, gs26, gi27⟩, h⟩ := gd_t h
    refine a_iastore dX11_turns_41 ga24 gs26 gi27 ?_
    refine a_iinc (v := (x1 + 1)) dX11_turns_42 rfl (by first | rfl | decide) (Nat.le_of_ble_eq_true rfl) (lv2 := [(1, .int (x1 + 1)), (0, .ref a0)]) rfl ?_
    refine a_goto 10 dX11_turns_45 (by decide) ?_
    exact a_lv (lv2 := [(0, .ref a0), (1, .int (x1 + 1))]) (fa_cons rfl (fa_cons rfl fa_nil)) (hJ _ _ _ h)
set_option maxHeartbeats 4000000 in
set_option maxRecDepth 100000 in
noncomputable def st_X11_turns (n : Nat) (s : Sg) : Option (Sg ⊕ (Unit × Mem)) := if s.1 = 0 then vR s.2.1 none (fun a0 t => vE t none (T_X11_turns_0 (fun c l M => some (.inl (c, l, M))) (fun v M => some (.inr (v, M))) none n a0 s.2.2)) else if s.1 = 10 then vR s.2.1 none (fun a0 t => vI t none (fun x1 t => vE t none (T_X11_turns_10 (fun c l M => some (.inl (c, l, M))) (fun v M => some (.inr (v, M))) none n a0 x1 s.2.2))) else none
noncomputable abbrev g_X11_turns_0 (n : Nat) (a0 : Nat) (M : Mem) : Option (Unit × Mem) := lp (st_X11_turns n) (0, [.ref a0], M)
set_option maxHeartbeats 4000000 in
set_option maxRecDepth 100000 in
theorem ge_X11_turns_0 (n : Nat) (a0 : Nat) (M : Mem) : g_X11_turns_0 n a0 M = T_X11_turns_0 (fun c l M => lp (st_X11_turns n) (c, l, M)) (fun v M => some (v, M)) none n a0 M := (lp_eq _ _).trans (n_X11_turns_0 (lpK (st_X11_turns n)) (fun c l M => some (.inl (c, l, M))) (fun v M => some (.inr (v, M))) none n a0 M)
noncomputable abbrev g_X11_turns_10 (n : Nat) (a0 : Nat) (x1 : Int32) (M : Mem) : Option (Unit × Mem) := lp (st_X11_turns n) (10, [.ref a0, .int x1], M)
set_option maxHeartbeats 4000000 in
set_option maxRecDepth 100000 in
theorem ge_X11_turns_10 (n : Nat) (a0 : Nat) (x1 : Int32) (M : Mem) : g_X11_turns_10 n a0 x1 M = T_X11_turns_10 (fun c l M => lp (st_X11_turns n) (c, l, M)) (fun v M => some (v, M)) none n a0 x1 M := (lp_eq _ _).trans (n_X11_turns_10 (lpK (st_X11_turns n)) (fun c l M => some (.inl (c, l, M))) (fun v M => some (.inr (v, M))) none n a0 x1 M)
noncomputable def b_X11_turns (n : Nat) (a0 : Nat) (M : Mem) : Option (Unit × Mem) := g_X11_turns_0 n a0 M
set_option maxHeartbeats 4000000 in
set_option maxRecDepth 100000 in
theorem sb_X11_turns {X : Nat × (Nat → Int32)} {al : Bool} {n : Nat} {a0 : Nat} {M : Mem} {v : Unit} {M1 : Mem} (h : b_X11_turns n a0 M = some (v, M1)) : AE yX11_turns cX11_turns 2 none al n X [.ref a0] M none M1 := by
  refine AM.of false (by decide +kernel) (by intro h; cases h) (Nat.le_of_ble_eq_true rfl) ?_
  refine lp_snd (P := fun s r => PW_X11_turns X al n (fun v M2 => v = none ∧ M2 = r.2) s.1 s.2.1 s.2.2) ?_ h
  clear h
  rintro ⟨c, l, M⟩ r h
  unfold st_X11_turns at h
  rcases ite_p h with ⟨e, h⟩ | ⟨e, h⟩
  · replace e : c = 0 := e
    subst e
    obtain ⟨a0, tt0, e, h⟩ := vR_p id h
    replace e : l = _ := e
    subst e
    obtain ⟨e, h⟩ := vE_p id h
    replace e : tt0 = [] := e
    subst e
    exact w_X11_turns_0 (J := fun c l M => PW_X11_turns X al n (fun v M2 => v = none ∧ M2 = r.2) c l M) (R := fun v M => (v, M) = r) (fun _ _ _ h => h) (fun v M h => by cases h; exact ⟨rfl, rfl⟩) ((n_X11_turns_0 (lpP (fun (s : Sg) (r : Unit × Mem) => PW_X11_turns X al n (fun v M2 => v = none ∧ M2 = r.2) s.1 s.2.1 s.2.2) r) (fun c l M => some (.inl (c, l, M))) (fun v M => some (.inr (v, M))) none n a0 M).mp h)
  rcases ite_p h with ⟨e, h⟩ | ⟨e, h⟩
  · replace e : c = 10 := e
    subst e
    obtain ⟨a0, tt0, e, h⟩ := vR_p id h
    replace e : l = _ := e
    subst e
    obtain ⟨x1, tt1, e, h⟩ := vI_p id h
    replace e : tt0 = _ := e
    subst e
    obtain ⟨e, h⟩ := vE_p id h
    replace e : tt1 = [] := e
    subst e
    exact w_X11_turns_10 (J := fun c l M => PW_X11_turns X al n (fun v M2 => v = none ∧ M2 = r.2) c l M) (R := fun v M => (v, M) = r) (fun _ _ _ h => h) (fun v M h => by cases h; exact ⟨rfl, rfl⟩) ((n_X11_turns_10 (lpP (fun (s : Sg) (r : Unit × Mem) => PW_X11_turns X al n (fun v M2 => v = none ∧ M2 = r.2) s.1 s.2.1 s.2.2) r) (fun c l M => some (.inl (c, l, M))) (fun v M => some (.inr (v, M))) none n a0 x1 M).mp h)
  · exact h.elim

noncomputable abbrev f_X11_turns := b_X11_turns
theorem s_X11_turns {X : Nat × (Nat → Int32)} {al : Bool} {n : Nat} {a0 : Nat} {M : Mem} {v : Unit} {M1 : Mem} (h : f_X11_turns n a0 M = some (v, M1)) : AE yX11_turns cX11_turns 2 none al n X [.ref a0] M none M1 := sb_X11_turns h
def ix_X11_steps (c : Nat) : List Nat := if c = 0 then [0] else if c = 254 then [0, 1, 2, 4, 5, 6] else if c = 361 then [0, 2, 5] else []
def PW_X11_steps (X : Nat × (Nat → Int32)) (al : Bool) (n : Nat) (Q : Option Value → Mem → Prop) (c : Nat) (l : List Value) (M : Mem) : Prop := AW X (RX11, cX11_steps, 7, (some .int), false, al, n) 0 0 c (List.zip (ix_X11_steps c) l) (l.drop (ix_X11_steps c).length) M Q
set_option maxHeartbeats 4000000 in
set_option maxRecDepth 100000 in
noncomputable def T_X11_steps_0.{u} {α : Sort u} (J : Nat → List Value → Mem → α) (R : Int32 → Mem → α) (N : α) (n : Nat) (a0 : Nat) (M : Mem) : α := gd (fO M a0 11) N (bnd2 (cal n (fun n => f_X11_firstRedex n a0 M)) N (fun v3 M4 => if v3 = (-1) then R 0 M4 else gd (fO M4 a0 11) N (bnd2 (cal n (fun n => f_X11_redexAt n a0 v3 M4)) N (fun v11 M12 => gd (fO M12 a0 11) N (bnd2 (cal n (fun n => f_X11_asked n a0 M12)) N (fun v18 M19 => gd (fO M19 a0 11) N (bnd2 (cal n (fun n => f_X11_willBe n a0 v3 v11 M19)) N (fun v25 M26 => if v25 ≤ 200 then gd (fO M26 a0 11) N (bnd2 (cal n (fun n => f_X11_behind n a0 v3 M26)) N (fun v33 M34 => gd (fO M34 a0 11) N (bnd2 (cal n (fun n => f_X11_copies n a0 0 v3 0 0 (wI M34 a0 25 0))) N (fun _ M40 => if v11 = 1 then gd (fO M40 a0 11) N (bnd (M40.2.2.2.2 a0 41) N (fun r47 => gd (fA M40 r47 1 v3) N (bnd2 (cal n (fun n => f_X11_inner n a0 v3 1 M40)) N (fun v53 M54 => gd (fO M54 a0 11) N (bnd2 (cal n (fun n => f_X11_puts n a0 ((v3 + 1) + 1) (M40.2.2.1 r47 (v3.toNatClampNeg)) v53 M54)) N (fun _ M60 => J 361 [.ref a0, .int v11, .int v33] M60)))))) else if v11 = 2 then gd (fO M40 a0 11) N (bnd2 (cal n (fun n => f_X11_inner n a0 (v3 + 1) 0 M40)) N (fun v67 M68 => gd (fO M68 a0 11) N (bnd2 (cal n (fun n => f_X11_inner n a0 (v3 + 1) 1 M68)) N (fun v74 M75 => gd (fO M75 a0 11) N (bnd2 (cal n (fun n => f_X11_copies n a0 v67 v74 0 0 M75)) N (fun _ M81 => J 361 [.ref a0, .int v11, .int v33] M81)))))) else if v11 = 3 then gd (fO M40 a0 11) N (bnd2 (cal n (fun n => f_X11_inner n a0 (v3 + 1) 1 M40)) N (fun v88 M89 => gd (fO M89 a0 11) N (bnd2 (cal n (fun n => f_X11_behind n a0 (v3 + 1) M89)) N (fun v95 M96 => gd (fO M96 a0 11) N (bnd2 (cal n (fun n => f_X11_copies n a0 v88 v95 0 0 M96)) N (fun _ M102 => J 361 [.ref a0, .int v11, .int v33] M102)))))) else if v11 = 4 then gd (fO M40 a0 11) N (bnd2 (cal n (fun n => f_X11_inner n a0 v3 1 M40)) N (fun v109 M110 => gd (fO M110 a0 11) N (bnd (M110.2.2.2.2 a0 41) N (fun r116 => gd (fA M110 r116 1 v3) N (bnd2 (cal n (fun n => f_X11_inner n a0 (v3 + 1) 0 M110)) N (fun v122 M123 => gd (fO M123 a0 11) N (bnd2 (cal n (fun n => f_X11_puts n a0 v109 (M110.2.2.1 r116 (v3.toNatClampNeg)) v122 M123)) N (fun _ M129 => J 361 [.ref a0, .int v11, .int v33] M129)))))))) else if v11 = 5 then gd (fO M40 a0 11) N (bnd2 (cal n (fun n => f_X11_inner n a0 v3 2 M40)) N (fun v136 M137 => gd (fO M137 a0 11) N (bnd (M137.2.2.2.2 a0 41) N (fun r143 => gd (fA M137 r143 1 v3) N (bnd2 (cal n (fun n => f_X11_inner n a0 (v3 + 1) 0 M137)) N (fun v149 M150 => gd (fO M150 a0 11) N (bnd2 (cal n (fun n => f_X11_puts n a0 v136 (M137.2.2.1 r143 (v3.toNatClampNeg)) v149 M150)) N (fun _ M156 => J 361 [.ref a0, .int v11, .int v33] M156)))))))) else if v11 = 6 then gd (fO M40 a0 11) N (bnd2 (cal n (fun n => f_X11_writes n a0 8 (-1) M40)) N (fun _ M163 => gd (fO M163 a0 11) N (bnd2 (cal n (fun n => f_X11_inner n a0 (v3 + 1) 0 M163)) N (fun v169 M170 => gd (fO M170 a0 11) N (bnd2 (cal n (fun n => f_X11_inner n a0 (v3 + 1) 1 M170)) N (fun v176 M177 => gd (fO M177 a0 11) N (bnd2 (cal n (fun n => f_X11_copies n a0 v169 v176 0 0 M177)) N (fun _ M183 => J 254 [.ref a0, .int v3, .int v11, .int (v3 + 1), .int v33, .int 1] M183)))))))) else gd (fO M40 a0 11) N (bnd (M40.2.2.2.2 a0 40) N (fun r189 => gd (fA M40 r189 1 v3) N (bnd2 (cal n (fun n => f_X11_writes n a0 9 (M40.2.2.1 r189 (v3.toNatClampNeg)) M40)) N (fun _ M195 => gd (fO M195 a0 11) N (bnd2 (cal n (fun n => f_X11_inner n a0 (v3 + 1) 0 M195)) N (fun v201 M202 => gd (fO M202 a0 11) N (bnd2 (cal n (fun n => f_X11_behind n a0 (v3 + 1) M202)) N (fun v208 M209 => gd (fO M209 a0 11) N (bnd2 (cal n (fun n => f_X11_copies n a0 v201 v208 0 0 M209)) N (fun _ M215 => J 361 [.ref a0, .int v11, .int v33] M215)))))))))))))) else R (-4) M26))))))))
set_option maxHeartbeats 4000000 in
set_option maxRecDepth 100000 in
theorem n_X11_steps_0.{u, v} {α : Sort u} {β : Sort v} (h : α → β) (J : Nat → List Value → Mem → α) (R : Int32 → Mem → α) (N : α) (n : Nat) (a0 : Nat) (M : Mem) : h (T_X11_steps_0 J R N n a0 M) = T_X11_steps_0 (fun c l M => h (J c l M)) (fun v M => h (R v M)) (h N) n a0 M := by
  simp only [T_X11_steps_0, nat_ite h, nat_gd h, nat_bnd h, nat_bnd2 h]
set_option maxHeartbeats 4000000 in
set_option maxRecDepth 100000 in
theorem w_X11_steps_0 {X : Nat × (Nat → Int32)} {al : Bool} {n : Nat} {Q : Option Value → Mem → Prop} {J : Nat → List Value → Mem → Prop} (hJ : ∀ c l M, J c l M → PW_X11_steps X al n Q c l M) {R : Int32 → Mem → Prop} (hR : ∀ v M, R v M → Q (some (.int v)) M) {a0 : Nat} {M : Mem} (h : T_X11_steps_0 J R False n a0 M) : AW X (RX11, cX11_steps, 7, (some .int), false, al, n) 0 0 0 [(0, .ref a0)] [] M Q := by
  unfold T_X11_steps_0 at h
  refine a_aload_n dX11_steps_0 rfl rfl ?_
  obtain ⟨⟨ga1, gs2⟩, h⟩ := gd_t h
  obtain ⟨v3, M4, e5, h⟩ := bnd2_t h
  obtain ⟨n6, en7, e5⟩ := cal_t e5
  refine e_callV (As := []) (st := []) (a := a0) (ci := 11) false dX11_steps_1 mw_X11_firstRedex (Or.inl ⟨rfl, ml_X11_328⟩) im_X11_firstRedex se_X11_firstRedex (by decide) ga1 gs2 rfl (Nat.le_of_ble_eq_true rfl) en7 (s_X11_firstRedex e5) ?_
  refine a_istore_n dX11_steps_4 rfl (Nat.le_of_ble_eq_true rfl) (lv2 := [(1, .int v3), (0, .ref a0)]) rfl ?_
  refine a_iload_n dX11_steps_5 rfl rfl ?_
  refine a_iconst (v := -1) dX11_steps_6 (by decide) ?_
  refine a_icmp_ne 12 dX11_steps_7 (by decide) (fun c8 => ?_) (fun c8 => ?_)
  · replace h := ite_f c8 h
    refine a_aload_n dX11_steps_12 rfl rfl ?_
    refine a_iload_n dX11_steps_13 rfl rfl ?_
    obtain ⟨⟨ga9, gs10⟩, h⟩ := gd_t h
    obtain ⟨v11, M12, e13, h⟩ := bnd2_t h
    obtain ⟨n14, en15, e13⟩ := cal_t e13
    refine e_callV (As := [.int v3]) (st := []) (a := a0) (ci := 11) false dX11_steps_14 mw_X11_redexAt (Or.inl ⟨rfl, ml_X11_300⟩) im_X11_redexAt se_X11_redexAt (by decide) ga9 gs10 rfl (Nat.le_of_ble_eq_true rfl) en15 (s_X11_redexAt e13) ?_
    refine a_istore_n dX11_steps_17 rfl (Nat.le_of_ble_eq_true rfl) (lv2 := [(2, .int v11), (1, .int v3), (0, .ref a0)]) rfl ?_
    refine a_aload_n dX11_steps_18 rfl rfl ?_
    obtain ⟨⟨ga16, gs17⟩, h⟩ := gd_t h
    obtain ⟨v18, M19, e20, h⟩ := bnd2_t h
    obtain ⟨n21, en22, e20⟩ := cal_t e20
    refine e_callV (As := []) (st := []) (a := a0) (ci := 11) false dX11_steps_19 mw_X11_asked (Or.inl ⟨rfl, ml_X11_331⟩) im_X11_asked se_X11_asked (by decide) ga16 gs17 rfl (Nat.le_of_ble_eq_true rfl) en22 (s_X11_asked e20) ?_
    refine a_istore_n dX11_steps_22 rfl (Nat.le_of_ble_eq_true rfl) (lv2 := [(3, .int v18), (2, .int v11), (1, .int v3), (0, .ref a0)]) rfl ?_
    refine a_aload_n dX11_steps_23 rfl rfl ?_
    refine a_iload_n dX11_steps_24 rfl rfl ?_
    refine a_iload_n dX11_steps_25 rfl rfl ?_
    obtain ⟨⟨ga23, gs24⟩, h⟩ := gd_t h
    obtain ⟨v25, M26, e27, h⟩ := bnd2_t h
    obtain ⟨n28, en29, e27⟩ := cal_t e27
    refine e_callV (As := [.int v3, .int v11]) (st := []) (a := a0) (ci := 11) false dX11_steps_26 mw_X11_willBe (Or.inl ⟨rfl, ml_X11_334⟩) im_X11_willBe se_X11_willBe (by decide) ga23 gs24 rfl (Nat.le_of_ble_eq_true rfl) en29 (s_X11_willBe e27) ?_
    refine a_sipush (v := 200) dX11_steps_29 (by decide) ?_
    refine a_icmp_le 38 dX11_steps_32 (by decide) (fun c30 => ?_) (fun c30 => ?_)
    · replace h := ite_t c30 h
      refine a_iload_n dX11_steps_38 rfl rfl ?_
      refine a_iconst (v := 1) dX11_steps_39 (by decide) ?_
      refine a_iadd dX11_steps_40 ?_
      refine a_istore dX11_steps_41 (Nat.le_of_ble_eq_true rfl) (lv2 := [(4, .int (v3 + 1)), (3, .int v18), (2, .int v11), (1, .int v3), (0, .ref a0)]) rfl ?_
      refine a_aload_n dX11_steps_43 rfl rfl ?_
      refine a_iload_n dX11_steps_44 rfl rfl ?_
      obtain ⟨⟨ga31, gs32⟩, h⟩ := gd_t h
      obtain ⟨v33, M34, e35, h⟩ := bnd2_t h
      obtain ⟨n36, en37, e35⟩ := cal_t e35
      refine e_callV (As := [.int v3]) (st := []) (a := a0) (ci := 11) false dX11_steps_45 mw_X11_behind (Or.inl ⟨rfl, ml_X11_309⟩) im_X11_behind se_X11_behind (by decide) ga31 gs32 rfl (Nat.le_of_ble_eq_true rfl) en37 (s_X11_behind e35) ?_
      refine a_istore dX11_steps_48 (Nat.le_of_ble_eq_true rfl) (lv2 := [(5, .int v33), (4, .int (v3 + 1)), (3, .int v18), (2, .int v11), (1, .int v3), (0, .ref a0)]) rfl ?_
      refine a_aload_n dX11_steps_50 rfl rfl ?_
      refine a_iconst (v := 0) dX11_steps_51 (by decide) ?_
      obtain ⟨⟨ga38, gs39⟩, h⟩ := gd_t h
      refine a_putI dX11_steps_52 (Or.inl ⟨fl_11_303, Or.inl rfl⟩) rfl ga38 gs39 rfl rfl ?_
      refine a_aload_n dX11_steps_55 rfl rfl ?_
      refine a_iconst (v := 0) dX11_steps_56 (by decide) ?_
      refine a_iload_n dX11_steps_57 rfl rfl ?_
      refine a_iconst (v := 0) dX11_steps_58 (by decide) ?_
      refine a_iconst (v := 0) dX11_steps_59 (by decide) ?_
      obtain ⟨_, M40, e41, h⟩ := bnd2_t h
      obtain ⟨n42, en43, e41⟩ := cal_t e41
      refine e_callV (As := [.int 0, .int v3, .int 0, .int 0]) (st := []) (a := a0) (ci := 11) false dX11_steps_60 mw_X11_copies (Or.inl ⟨rfl, ml_X11_312⟩) im_X11_copies se_X11_copies (by decide) ga38 gs39 rfl (Nat.le_of_ble_eq_true rfl) en43 (s_X11_copies e41) ?_
      refine a_iload_n dX11_steps_63 rfl rfl ?_
      by_cases c44 : v11 = 1
      · replace h := ite_t c44 h
        refine a_tableIn (off := 40) 104 dX11_steps_64 (by rw [c44]; decide) (by rw [c44]; decide) (by rw [c44]; rfl) (by decide) ?_
        refine a_aload_n dX11_steps_104 rfl rfl ?_
        refine a_iload dX11_steps_105 rfl ?_
        refine a_iconst (v := 1) dX11_steps_107 (by decide) ?_
        refine a_iadd dX11_steps_108 ?_
        refine a_aload_n dX11_steps_109 rfl rfl ?_
        obtain ⟨⟨ga45, gs46⟩, h⟩ := gd_t h
        obtain ⟨r47, e48, h⟩ := bnd_t h
        refine a_get (v := .ref r47) dX11_steps_110 fl_11_90 ga45 gs46 (gvR e48 rfl) ?_
        refine a_iload_n dX11_steps_113 rfl rfl ?_
        obtain ⟨⟨ga49, gn50, gs51, gi52⟩, h⟩ := gd_t h
        refine a_iaload dX11_steps_114 ga49 gs51 gi52 ?_
        refine a_aload_n dX11_steps_115 rfl rfl ?_
        refine a_iload_n dX11_steps_116 rfl rfl ?_
        refine a_iconst (v := 1) dX11_steps_117 (by decide) ?_
        obtain ⟨v53, M54, e55, h⟩ := bnd2_t h
        obtain ⟨n56, en57, e55⟩ := cal_t e55
        refine e_callV (As := [.int v3, .int 1]) (st := [.int (M40.2.2.1 r47 (v3.toNatClampNeg)), .int ((v3 + 1) + 1), .ref a0]) (a := a0) (ci := 11) false dX11_steps_118 mw_X11_inner (Or.inl ⟨rfl, ml_X11_319⟩) im_X11_inner se_X11_inner (by decide) ga45 gs46 rfl (Nat.le_of_ble_eq_true rfl) en57 (s_X11_inner e55) ?_
        obtain ⟨⟨ga58, gs59⟩, h⟩ := gd_t h
        obtain ⟨_, M60, e61, h⟩ := bnd2_t h
        obtain ⟨n62, en63, e61⟩ := cal_t e61
        refine e_callV (As := [.int ((v3 + 1) + 1), .int (M40.2.2.1 r47 (v3.toNatClampNeg)), .int v53]) (st := []) (a := a0) (ci := 11) false dX11_steps_121 mw_X11_puts (Or.inl ⟨rfl, ml_X11_337⟩) im_X11_puts se_X11_puts (by decide) ga58 gs59 rfl (Nat.le_of_ble_eq_true rfl) en63 (s_X11_puts e61) ?_
        refine a_goto 361 dX11_steps_124 (by decide) ?_
        exact a_lv (lv2 := [(0, .ref a0), (2, .int v11), (5, .int v33)]) (fa_cons rfl (fa_cons rfl (fa_cons rfl fa_nil))) (hJ _ _ _ h)
      replace h := ite_f c44 h
      by_cases c64 : v11 = 2
      · replace h := ite_t c64 h
        refine a_tableIn (off := 63) 127 dX11_steps_64 (by rw [c64]; decide) (by rw [c64]; decide) (by rw [c64]; rfl) (by decide) ?_
        refine a_aload_n dX11_steps_127 rfl rfl ?_
        refine a_aload_n dX11_steps_128 rfl rfl ?_
        refine a_iload dX11_steps_129 rfl ?_
        refine a_iconst (v := 0) dX11_steps_131 (by decide) ?_
        obtain ⟨⟨ga65, gs66⟩, h⟩ := gd_t h
        obtain ⟨v67, M68, e69, h⟩ := bnd2_t h
        obtain ⟨n70, en71, e69⟩ := cal_t e69
        refine e_callV (As := [.int (v3 + 1), .int 0]) (st := [.ref a0]) (a := a0) (ci := 11) false dX11_steps_132 mw_X11_inner (Or.inl ⟨rfl, ml_X11_319⟩) im_X11_inner se_X11_inner (by decide) ga65 gs66 rfl (Nat.le_of_ble_eq_true rfl) en71 (s_X11_inner e69) ?_
        refine a_aload_n dX11_steps_135 rfl rfl ?_
        refine a_iload dX11_steps_136 rfl ?_
        refine a_iconst (v := 1) dX11_steps_138 (by decide) ?_
        obtain ⟨⟨ga72, gs73⟩, h⟩ := gd_t h
        obtain ⟨v74, M75, e76, h⟩ := bnd2_t h
        obtain ⟨n77, en78, e76⟩ := cal_t e76
        refine e_callV (As := [.int (v3 + 1), .int 1]) (st := [.int v67, .ref a0]) (a := a0) (ci := 11) false dX11_steps_139 mw_X11_inner (Or.inl ⟨rfl, ml_X11_319⟩) im_X11_inner se_X11_inner (by decide) ga72 gs73 rfl (Nat.le_of_ble_eq_true rfl) en78 (s_X11_inner e76) ?_
        refine a_iconst (v := 0) dX11_steps_142 (by decide) ?_
        refine a_iconst (v := 0) dX11_steps_143 (by decide) ?_
        obtain ⟨⟨ga79, gs80⟩, h⟩ := gd_t h
        obtain ⟨_, M81, e82, h⟩ := bnd2_t h
        obtain ⟨n83, en84, e82⟩ := cal_t e82
        refine e_callV (As := [.int v67, .int v74, .int 0, .int 0]) (st := []) (a := a0) (ci := 11) false dX11_steps_144 mw_X11_copies (Or.inl ⟨rfl, ml_X11_312⟩) im_X11_copies se_X11_copies (by decide) ga79 gs80 rfl (Nat.le_of_ble_eq_true rfl) en84 (s_X11_copies e82) ?_
        refine a_goto 361 dX11_steps_147 (by decide) ?_
        exact a_lv (lv2 := [(0, .ref a0), (2, .int v11), (5, .int v33)]) (fa_cons rfl (fa_cons rfl (fa_cons rfl fa_nil))) (hJ _ _ _ h)
      replace h := ite_f c64 h
      by_cases c85 : v11 = 3
      · replace h := ite_t c85 h
        refine a_tableIn (off := 86) 150 dX11_steps_64 (by rw [c85]; decide) (by rw [c85]; decide) (by rw [c85]; rfl) (by decide) ?_
        refine a_aload_n dX11_steps_150 rfl rfl ?_
        refine a_aload_n dX11_steps_151 rfl rfl ?_
        refine a_iload dX11_steps_152 rfl ?_
        refine a_iconst (v := 1) dX11_steps_154 (by decide) ?_
        obtain ⟨⟨ga86, gs87⟩, h⟩ := gd_t h
        obtain ⟨v88, M89, e90, h⟩ := bnd2_t h
        obtain ⟨n91, en92, e90⟩ := cal_t e90
        refine e_callV (As := [.int (v3 + 1), .int 1]) (st := [.ref a0]) (a := a0) (ci := 11) false dX11_steps_155 mw_X11_inner (Or.inl ⟨rfl, ml_X11_319⟩) im_X11_inner se_X11_inner (by decide) ga86 gs87 rfl (Nat.le_of_ble_eq_true rfl) en92 (s_X11_inner e90) ?_
        refine a_aload_n dX11_steps_158 rfl rfl ?_
        refine a_iload dX11_steps_159 rfl ?_
        obtain ⟨⟨ga93, gs94⟩, h⟩ := gd_t h
        obtain ⟨v95, M96, e97, h⟩ := bnd2_t h
        obtain ⟨n98, en99, e97⟩ := cal_t e97
        refine e_callV (As := [.int (v3 + 1)]) (st := [.int v88, .ref a0]) (a := a0) (ci := 11) false dX11_steps_161 mw_X11_behind (Or.inl ⟨rfl, ml_X11_309⟩) im_X11_behind se_X11_behind (by decide) ga93 gs94 rfl (Nat.le_of_ble_eq_true rfl) en99 (s_X11_behind e97) ?_
        refine a_iconst (v := 0) dX11_steps_164 (by decide) ?_
        refine a_iconst (v := 0) dX11_steps_165 (by decide) ?_
        obtain ⟨⟨ga100, gs101⟩, h⟩ := gd_t h
        obtain ⟨_, M102, e103, h⟩ := bnd2_t h
        obtain ⟨n104, en105, e103⟩ := cal_t e103
        refine e_callV (As := [.int v88, .int v95, .int 0, .int 0]) (st := []) (a := a0) (ci := 11) false dX11_steps_166 mw_X11_copies (Or.inl ⟨rfl, ml_X11_312⟩) im_X11_copies se_X11_copies (by decide) ga100 gs101 rfl (Nat.le_of_ble_eq_true rfl) en105 (s_X11_copies e103) ?_
        refine a_goto 361 dX11_steps_169 (by decide) ?_
        exact a_lv (lv2 := [(0, .ref a0), (2, .int v11), (5, .int v33)]) (fa_cons rfl (fa_cons rfl (fa_cons rfl fa_nil))) (hJ _ _ _ h)
      replace h := ite_f c85 h
      by_cases c106 : v11 = 4
      · replace h := ite_t c106 h
        refine a_tableIn (off := 108) 172 dX11_steps_64 (by rw [c106]; decide) (by rw [c106]; decide) (by rw [c106]; rfl) (by decide) ?_
        refine a_aload_n dX11_steps_172 rfl rfl ?_
        refine a_aload_n dX11_steps_173 rfl rfl ?_
        refine a_iload_n dX11_steps_174 rfl rfl ?_
        refine a_iconst (v := 1) dX11_steps_175 (by decide) ?_
        obtain ⟨⟨ga107, gs108⟩, h⟩ := gd_t h
        obtain ⟨v109, M110, e111, h⟩ := bnd2_t h
        obtain ⟨n112, en113, e111⟩ := cal_t e111
        refine e_callV (As := [.int v3, .int 1]) (st := [.ref a0]) (a := a0) (ci := 11) false dX11_steps_176 mw_X11_inner (Or.inl ⟨rfl, ml_X11_319⟩) im_X11_inner se_X11_inner (by decide) ga107 gs108 rfl (Nat.le_of_ble_eq_true rfl) en113 (s_X11_inner e111) ?_
        refine a_aload_n dX11_steps_179 rfl rfl ?_
        obtain ⟨⟨ga114, gs115⟩, h⟩ := gd_t h
        obtain ⟨r116, e117, h⟩ := bnd_t h
        refine a_get (v := .ref r116) dX11_steps_180 fl_11_90 ga114 gs115 (gvR e117 rfl) ?_
        refine a_iload_n dX11_steps_183 rfl rfl ?_
        obtain ⟨⟨ga118, gn119, gs120, gi121⟩, h⟩ := gd_t h
        refine a_iaload dX11_steps_184 ga118 gs120 gi121 ?_
        refine a_aload_n dX11_steps_185 rfl rfl ?_
        refine a_iload dX11_steps_186 rfl ?_
        refine a_iconst (v := 0) dX11_steps_188 (by decide) ?_
        obtain ⟨v122, M123, e124, h⟩ := bnd2_t h
        obtain ⟨n125, en126, e124⟩ := cal_t e124
        refine e_callV (As := [.int (v3 + 1), .int 0]) (st := [.int (M110.2.2.1 r116 (v3.toNatClampNeg)), .int v109, .ref a0]) (a := a0) (ci := 11) false dX11_steps_189 mw_X11_inner (Or.inl ⟨rfl, ml_X11_319⟩) im_X11_inner se_X11_inner (by decide) ga114 gs115 rfl (Nat.le_of_ble_eq_true rfl) en126 (s_X11_inner e124) ?_
        obtain ⟨⟨ga127, gs128⟩, h⟩ := gd_t h
        obtain ⟨_, M129, e130, h⟩ := bnd2_t h
        obtain ⟨n131, en132, e130⟩ := cal_t e130
        refine e_callV (As := [.int v109, .int (M110.2.2.1 r116 (v3.toNatClampNeg)), .int v122]) (st := []) (a := a0) (ci := 11) false dX11_steps_192 mw_X11_puts (Or.inl ⟨rfl, ml_X11_337⟩) im_X11_puts se_X11_puts (by decide) ga127 gs128 rfl (Nat.le_of_ble_eq_true rfl) en132 (s_X11_puts e130) ?_
        refine a_goto 361 dX11_steps_195 (by decide) ?_
        exact a_lv (lv2 := [(0, .ref a0), (2, .int v11), (5, .int v33)]) (fa_cons rfl (fa_cons rfl (fa_cons rfl fa_nil))) (hJ _ _ _ h)
      replace h := ite_f c106 h
      by_cases c133 : v11 = 5
      · replace h := ite_t c133 h
        refine a_tableIn (off := 134) 198 dX11_steps_64 (by rw [c133]; decide) (by rw [c133]; decide) (by rw [c133]; rfl) (by decide) ?_
        refine a_aload_n dX11_steps_198 rfl rfl ?_
        refine a_aload_n dX11_steps_199 rfl rfl ?_
        refine a_iload_n dX11_steps_200 rfl rfl ?_
        refine a_iconst (v := 2) dX11_steps_201 (by decide) ?_
        obtain ⟨⟨ga134, gs135⟩, h⟩ := gd_t h
        obtain ⟨v136, M137, e138, h⟩ := bnd2_t h
        obtain ⟨n139, en140, e138⟩ := cal_t e138
        refine e_callV (As := [.int v3, .int 2]) (st := [.ref a0]) (a := a0) (ci := 11) false dX11_steps_202 mw_X11_inner (Or.inl ⟨rfl, ml_X11_319⟩) im_X11_inner se_X11_inner (by decide) ga134 gs135 rfl (Nat.le_of_ble_eq_true rfl) en140 (s_X11_inner e138) ?_
        refine a_aload_n dX11_steps_205 rfl rfl ?_
        obtain ⟨⟨ga141, gs142⟩, h⟩ := gd_t h
        obtain ⟨r143, e144, h⟩ := bnd_t h
        refine a_get (v := .ref r143) dX11_steps_206 fl_11_90 ga141 gs142 (gvR e144 rfl) ?_
        refine a_iload_n dX11_steps_209 rfl rfl ?_
        obtain ⟨⟨ga145, gn146, gs147, gi148⟩, h⟩ := gd_t h
        refine a_iaload dX11_steps_210 ga145 gs147 gi148 ?_
        refine a_aload_n dX11_steps_211 rfl rfl ?_
        refine a_iload dX11_steps_212 rfl ?_
        refine a_iconst (v := 0) dX11_steps_214 (by decide) ?_
        obtain ⟨v149, M150, e151, h⟩ := bnd2_t h
        obtain ⟨n152, en153, e151⟩ := cal_t e151
        refine e_callV (As := [.int (v3 + 1), .int 0]) (st := [.int (M137.2.2.1 r143 (v3.toNatClampNeg)), .int v136, .ref a0]) (a := a0) (ci := 11) false dX11_steps_215 mw_X11_inner (Or.inl ⟨rfl, ml_X11_319⟩) im_X11_inner se_X11_inner (by decide) ga141 gs142 rfl (Nat.le_of_ble_eq_true rfl) en153 (s_X11_inner e151) ?_
        obtain ⟨⟨ga154, gs155⟩, h⟩ := gd_t h
        obtain ⟨_, M156, e157, h⟩ := bnd2_t h
        obtain ⟨n158, en159, e157⟩ := cal_t e157
        refine e_callV (As := [.int v136, .int (M137.2.2.1 r143 (v3.toNatClampNeg)), .int v149]) (st := []) (a := a0) (ci := 11) false dX11_steps_218 mw_X11_puts (Or.inl ⟨rfl, ml_X11_337⟩) im_X11_puts se_X11_puts (by decide) ga154 gs155 rfl (Nat.le_of_ble_eq_true rfl) en159 (s_X11_puts e157) ?_
        refine a_goto 361 dX11_steps_221 (by decide) ?_
        exact a_lv (lv2 := [(0, .ref a0), (2, .int v11), (5, .int v33)]) (fa_cons rfl (fa_cons rfl (fa_cons rfl fa_nil))) (hJ _ _ _ h)
      replace h := ite_f c133 h
      by_cases c160 : v11 = 6
      · replace h := ite_t c160 h
        refine a_tableIn (off := 160) 224 dX11_steps_64 (by rw [c160]; decide) (by rw [c160]; decide) (by rw [c160]; rfl) (by decide) ?_
        refine a_aload_n dX11_steps_224 rfl rfl ?_
        refine a_bipush (v := 8) dX11_steps_225 (by decide) ?_
        refine a_iconst (v := -1) dX11_steps_227 (by decide) ?_
        obtain ⟨⟨ga161, gs162⟩, h⟩ := gd_t h
        obtain ⟨_, M163, e164, h⟩ := bnd2_t h
        obtain ⟨n165, en166, e164⟩ := cal_t e164
        refine e_callV (As := [.int 8, .int (-1)]) (st := []) (a := a0) (ci := 11) false dX11_steps_228 mw_X11_writes (Or.inl ⟨rfl, ml_X11_306⟩) im_X11_writes se_X11_writes (by decide) ga161 gs162 rfl (Nat.le_of_ble_eq_true rfl) en166 (s_X11_writes e164) ?_
        refine a_aload_n dX11_steps_231 rfl rfl ?_
        refine a_aload_n dX11_steps_232 rfl rfl ?_
        refine a_iload dX11_steps_233 rfl ?_
        refine a_iconst (v := 0) dX11_steps_235 (by decide) ?_
        obtain ⟨⟨ga167, gs168⟩, h⟩ := gd_t h
        obtain ⟨v169, M170, e171, h⟩ := bnd2_t h
        obtain ⟨n172, en173, e171⟩ := cal_t e171
        refine e_callV (As := [.int (v3 + 1), .int 0]) (st := [.ref a0]) (a := a0) (ci := 11) false dX11_steps_236 mw_X11_inner (Or.inl ⟨rfl, ml_X11_319⟩) im_X11_inner se_X11_inner (by decide) ga167 gs168 rfl (Nat.le_of_ble_eq_true rfl) en173 (s_X11_inner e171) ?_
        refine a_aload_n dX11_steps_239 rfl rfl ?_
        refine a_iload dX11_steps_240 rfl ?_
        refine a_iconst (v := 1) dX11_steps_242 (by decide) ?_
        obtain ⟨⟨ga174, gs175⟩, h⟩ := gd_t h
        obtain ⟨v176, M177, e178, h⟩ := bnd2_t h
        obtain ⟨n179, en180, e178⟩ := cal_t e178
        refine e_callV (As := [.int (v3 + 1), .int 1]) (st := [.int v169, .ref a0]) (a := a0) (ci := 11) false dX11_steps_243 mw_X11_inner (Or.inl ⟨rfl, ml_X11_319⟩) im_X11_inner se_X11_inner (by decide) ga174 gs175 rfl (Nat.le_of_ble_eq_true rfl) en180 (s_X11_inner e178) ?_
        refine a_iconst (v := 0) dX11_steps_246 (by decide) ?_
        refine a_iconst (v := 0) dX11_steps_247 (by decide) ?_
        obtain ⟨⟨ga181, gs182⟩, h⟩ := gd_t h
        obtain ⟨_, M183, e184, h⟩ := bnd2_t h
        obtain ⟨n185, en186, e184⟩ := cal_t e184
        refine e_callV (As := [.int v169, .int v176, .int 0, .int 0]) (st := []) (a := a0) (ci := 11) false dX11_steps_248 mw_X11_copies (Or.inl ⟨rfl, ml_X11_312⟩) im_X11_copies se_X11_copies (by decide) ga181 gs182 rfl (Nat.le_of_ble_eq_true rfl) en186 (s_X11_copies e184) ?_
        refine a_iconst (v := 1) dX11_steps_251 (by decide) ?_
        refine a_istore dX11_steps_252 (Nat.le_of_ble_eq_true rfl) (lv2 := [(6, .int 1), (5, .int v33), (4, .int (v3 + 1)), (3, .int v18), (2, .int v11), (1, .int v3), (0, .ref a0)]) rfl ?_
        exact a_lv (lv2 := [(0, .ref a0), (1, .int v3), (2, .int v11), (4, .int (v3 + 1)), (5, .int v33), (6, .int 1)]) (fa_cons rfl (fa_cons rfl (fa_cons rfl (fa_cons rfl (fa_cons rfl (fa_cons rfl fa_nil)))))) (hJ _ _ _ h)
      replace h := ite_f c160 h
      refine a_tableOut 330 dX11_steps_64 (by have q0 := ne_toInt (z := 1) c44 rfl; have q1 := ne_toInt (z := 2) c64 rfl; have q2 := ne_toInt (z := 3) c85 rfl; have q3 := ne_toInt (z := 4) c106 rfl; have q4 := ne_toInt (z := 5) c133 rfl; have q5 := ne_toInt (z := 6) c160 rfl; omega) (by decide) ?_
      refine a_aload_n dX11_steps_330 rfl rfl ?_
      refine a_bipush (v := 9) dX11_steps_331 (by decide) ?_
      refine a_aload_n dX11_steps_333 rfl rfl ?_
      obtain ⟨⟨ga187, gs188⟩, h⟩ := gd_t h
      obtain ⟨r189, e190, h⟩ := bnd_t h
      refine a_get (v := .ref r189) dX11_steps_334 fl_11_87 ga187 gs188 (gvR e190 rfl) ?_
      refine a_iload_n dX11_steps_337 rfl rfl ?_
      obtain ⟨⟨ga191, gn192, gs193, gi194⟩, h⟩ := gd_t h
      refine a_iaload dX11_steps_338 ga191 gs193 gi194 ?_
      obtain ⟨_, M195, e196, h⟩ := bnd2_t h
      obtain ⟨n197, en198, e196⟩ := cal_t e196
      refine e_callV (As := [.int 9, .int (M40.2.2.1 r189 (v3.toNatClampNeg))]) (st := []) (a := a0) (ci := 11) false dX11_steps_339 mw_X11_writes (Or.inl ⟨rfl, ml_X11_306⟩) im_X11_writes se_X11_writes (by decide) ga187 gs188 rfl (Nat.le_of_ble_eq_true rfl) en198 (s_X11_writes e196) ?_
      refine a_aload_n dX11_steps_342 rfl rfl ?_
      refine a_aload_n dX11_steps_343 rfl rfl ?_
      refine a_iload dX11_steps_344 rfl ?_
      refine a_iconst (v := 0) dX11_steps_346 (by decide) ?_
      obtain ⟨⟨ga199, gs200⟩, h⟩ := gd_t h
      obtain ⟨v201, M202, e203, h⟩ := bnd2_t h
      obtain ⟨n204, en205, e203⟩ := cal_t e203
      refine e_callV (As := [.int (v3 + 1), .int 0]) (st := [.ref a0]) (a := a0) (ci := 11) false dX11_steps_347 mw_X11_inner (Or.inl ⟨rfl, ml_X11_319⟩) im_X11_inner se_X11_inner (by decide) ga199 gs200 rfl (Nat.le_of_ble_eq_true rfl) en205 (s_X11_inner e203) ?_
      refine a_aload_n dX11_steps_350 rfl rfl ?_
      refine a_iload dX11_steps_351 rfl ?_
      obtain ⟨⟨ga206, gs207⟩, h⟩ := gd_t h
      obtain ⟨v208, M209, e210, h⟩ := bnd2_t h
      obtain ⟨n211, en212, e210⟩ := cal_t e210
      refine e_callV (As := [.int (v3 + 1)]) (st := [.int v201, .ref a0]) (a := a0) (ci := 11) false dX11_steps_353 mw_X11_behind (Or.inl ⟨rfl, ml_X11_309⟩) im_X11_behind se_X11_behind (by decide) ga206 gs207 rfl (Nat.le_of_ble_eq_true rfl) en212 (s_X11_behind e210) ?_
      refine a_iconst (v := 0) dX11_steps_356 (by decide) ?_
      refine a_iconst (v := 0) dX11_steps_357 (by decide) ?_
      obtain ⟨⟨ga213, gs214⟩, h⟩ := gd_t h
      obtain ⟨_, M215, e216, h⟩ := bnd2_t h
      obtain ⟨n217, en218, e216⟩ := cal_t e216
      refine e_callV (As := [.int v201, .int v208, .int 0, .int 0]) (st := []) (a := a0) (ci := 11) false dX11_steps_358 mw_X11_copies (Or.inl ⟨rfl, ml_X11_312⟩) im_X11_copies se_X11_copies (by decide) ga213 gs214 rfl (Nat.le_of_ble_eq_true rfl) en218 (s_X11_copies e216) ?_
      exact a_lv (lv2 := [(0, .ref a0), (2, .int v11), (5, .int v33)]) (fa_cons rfl (fa_cons rfl (fa_cons rfl fa_nil))) (hJ _ _ _ h)
    · replace h := ite_f c30 h
      refine a_bipush (v := -4) dX11_steps_35 (by decide) ?_
      exact a_iret dX11_steps_37 rfl (hR _ _ h)
  · replace h := ite_t c8 h
    refine a_iconst (v := 0) dX11_steps_10 (by decide) ?_
    exact a_iret dX11_steps_11 rfl (hR _ _ h)
set_option maxHeartbeats 4000000 in
set_option maxRecDepth 100000 in
noncomputable def T_X11_steps_254.{u} {α : Sort u} (J : Nat → List Value → Mem → α) (R : Int32 → Mem → α) (N : α) (n : Nat) (a0 : Nat) (x1 : Int32) (x2 : Int32) (x4 : Int32) (x5 : Int32) (x6 : Int32) (M : Mem) : α := if 3 ≤ x6 then J 361 [.ref a0, .int x2, .int x5] M else gd (fO M a0 11) N (bnd (M.2.2.2.2 a0 20) N (fun r4 => gd (fA M r4 1 x1) N (bnd (M.2.2.2.2 a0 21) N (fun r10 => gd (fA M r10 1 x1) N (bnd2 (cal n (fun n => f_X11_writes n a0 (M.2.2.1 r4 (x1.toNatClampNeg)) (M.2.2.1 r10 (x1.toNatClampNeg)) M)) N (fun _ M16 => gd (fO M16 a0 11) N (bnd2 (cal n (fun n => f_X11_inner n a0 x4 x6 M16)) N (fun v22 M23 => gd (fO M23 a0 11) N (bnd2 (cal n (fun n => f_X11_inner n a0 x4 x6 M23)) N (fun v29 M30 => gd (fO M30 a0 11) N (bnd2 (cal n (fun n => f_X11_behind n a0 v29 M30)) N (fun v36 M37 => gd (fO M37 a0 11) N (bnd2 (cal n (fun n => f_X11_copies n a0 v22 v36 0 0 M37)) N (fun _ M43 => gd (fO M43 a0 11) N (bnd2 (cal n (fun n => f_X11_behind n a0 x4 M43)) N (fun v49 M50 => gd (fO M50 a0 11) N (bnd (M50.2.2.2.2 a0 41) N (fun r56 => gd (fA M50 r56 1 x1) N (bnd2 (cal n (fun n => f_X11_copies n a0 v49 x5 (M50.2.2.1 r56 (x1.toNatClampNeg)) 1 M50)) N (fun _ M62 => J 254 [.ref a0, .int x1, .int x2, .int x4, .int x5, .int (x6 + 1)] M62))))))))))))))))))))
set_option maxHeartbeats 4000000 in
set_option maxRecDepth 100000 in
theorem n_X11_steps_254.{u, v} {α : Sort u} {β : Sort v} (h : α → β) (J : Nat → List Value → Mem → α) (R : Int32 → Mem → α) (N : α) (n : Nat) (a0 : Nat) (x1 : Int32) (x2 : Int32) (x4 : Int32) (x5 : Int32) (x6 : Int32) (M : Mem) : h (T_X11_steps_254 J R N n a0 x1 x2 x4 x5 x6 M) = T_X11_steps_254 (fun c l M => h (J c l M)) (fun v M => h (R v M)) (h N) n a0 x1 x2 x4 x5 x6 M := by
  simp only [T_X11_steps_254, nat_ite h, nat_gd h, nat_bnd h, nat_bnd2 h]
set_option maxHeartbeats 4000000 in
set_option maxRecDepth 100000 in
theorem w_X11_steps_254 {X : Nat × (Nat → Int32)} {al : Bool} {n : Nat} {Q : Option Value → Mem → Prop} {J : Nat → List Value → Mem → Prop} (hJ : ∀ c l M, J c l M → PW_X11_steps X al n Q c l M) {R : Int32 → Mem → Prop} (hR : ∀ v M, R v M → Q (some (.int v)) M) {a0 : Nat} {x1 : Int32} {x2 : Int32} {x4 : Int32} {x5 : Int32} {x6 : Int32} {M : Mem} (h : T_X11_steps_254 J R False n a0 x1 x2 x4 x5 x6 M) : AW X (RX11, cX11_steps, 7, (some .int), false, al, n) 0 0 254 [(0, .ref a0), (1, .int x1), (2, .int x2), (4, .int x4), (5, .int x5), (6, .int x6)] [] M Q := by
  unfold T_X11_steps_254 at h
  refine a_iload dX11_steps_254 rfl ?_
  refine a_iconst (v := 3) dX11_steps_256 (by decide) ?_
  refine a_icmp_ge 327 dX11_steps_257 (by decide) (fun c1 => ?_) (fun c1 => ?_)
  · replace h := ite_t c1 h
    refine a_goto 361 dX11_steps_327 (by decide) ?_
    exact a_lv (lv2 := [(0, .ref a0), (2, .int x2), (5, .int x5)]) (fa_cons rfl (fa_cons rfl (fa_cons rfl fa_nil))) (hJ _ _ _ h)
  · replace h := ite_f c1 h
    refine a_aload_n dX11_steps_260 rfl rfl ?_
    refine a_aload_n dX11_steps_261 rfl rfl ?_
    obtain ⟨⟨ga2, gs3⟩, h⟩ := gd_t h
    obtain ⟨r4, e5, h⟩ := bnd_t h
    refine a_get (v := .ref r4) dX11_steps_262 fl_11_59 ga2 gs3 (gvR e5 rfl) ?_
    refine a_iload_n dX11_steps_265 rfl rfl ?_
    obtain ⟨⟨ga6, gn7, gs8, gi9⟩, h⟩ := gd_t h
    refine a_iaload dX11_steps_266 ga6 gs8 gi9 ?_
    refine a_aload_n dX11_steps_267 rfl rfl ?_
    obtain ⟨r10, e11, h⟩ := bnd_t h
    refine a_get (v := .ref r10) dX11_steps_268 fl_11_62 ga2 gs3 (gvR e11 rfl) ?_
    refine a_iload_n dX11_steps_271 rfl rfl ?_
    obtain ⟨⟨ga12, gn13, gs14, gi15⟩, h⟩ := gd_t h
    refine a_iaload dX11_steps_272 ga12 gs14 gi15 ?_
    obtain ⟨_, M16, e17, h⟩ := bnd2_t h
    obtain ⟨n18, en19, e17⟩ := cal_t e17
    refine e_callV (As := [.int (M.2.2.1 r4 (x1.toNatClampNeg)), .int (M.2.2.1 r10 (x1.toNatClampNeg))]) (st := []) (a := a0) (ci := 11) false dX11_steps_273 mw_X11_writes (Or.inl ⟨rfl, ml_X11_306⟩) im_X11_writes se_X11_writes (by decide) ga2 gs3 rfl (Nat.le_of_ble_eq_true rfl) en19 (s_X11_writes e17) ?_
    refine a_aload_n dX11_steps_276 rfl rfl ?_
    refine a_aload_n dX11_steps_277 rfl rfl ?_
    refine a_iload dX11_steps_278 rfl ?_
    refine a_iload dX11_steps_280 rfl ?_
    obtain ⟨⟨ga20, gs21⟩, h⟩ := gd_t h
    obtain ⟨v22, M23, e24, h⟩ := bnd2_t h
    obtain ⟨n25, en26, e24⟩ := cal_t e24
    refine e_callV (As := [.int x4, .int x6]) (st := [.ref a0]) (a := a0) (ci := 11) false dX11_steps_282 mw_X11_inner (Or.inl ⟨rfl, ml_X11_319⟩) im_X11_inner se_X11_inner (by decide) ga20 gs21 rfl (Nat.le_of_ble_eq_true rfl) en26 (s_X11_inner e24) ?_
    refine a_aload_n dX11_steps_285 rfl rfl ?_
    refine a_aload_n dX11_steps_286 rfl rfl ?_
    refine a_iload dX11_steps_287 rfl ?_
    refine a_iload dX11_steps_289 rfl ?_
    obtain ⟨⟨ga27, gs28⟩, h⟩ := gd_t h
    obtain ⟨v29, M30, e31, h⟩ := bnd2_t h
    obtain ⟨n32, en33, e31⟩ := cal_t e31
    refine e_callV (As := [.int x4, .int x6]) (st := [.ref a0, .int v22, .ref a0]) (a := a0) (ci := 11) false dX11_steps_291 mw_X11_inner (Or.inl ⟨rfl, ml_X11_319⟩) im_X11_inner se_X11_inner (by decide) ga27 gs28 rfl (Nat.le_of_ble_eq_true rfl) en33 (s_X11_inner e31) ?_
    obtain ⟨⟨ga34, gs35⟩, h⟩ := gd_t h
    obtain ⟨v36, M37, e38, h⟩ := bnd2_t h
    obtain ⟨n39, en40, e38⟩ := cal_t e38
    refine e_callV (As := [.int v29]) (st := [.int v22, .ref a0]) (a := a0) (ci := 11) false dX11_steps_294 mw_X11_behind (Or.inl ⟨rfl, ml_X11_309⟩) im_X11_behind se_X11_behind (by decide) ga34 gs35 rfl (Nat.le_of_ble_eq_true rfl) en40 (s_X11_behind e38) ?_
    refine a_iconst (v := 0) dX11_steps_297 (by decide) ?_
    refine a_iconst (v := 0) dX11_steps_298 (by decide) ?_
    obtain ⟨⟨ga41, gs42⟩, h⟩ := gd_t h
    obtain ⟨_, M43, e44, h⟩ := bnd2_t h
    obtain ⟨n45, en46, e44⟩ := cal_t e44
    refine e_callV (As := [.int v22, .int v36, .int 0, .int 0]) (st := []) (a := a0) (ci := 11) false dX11_steps_299 mw_X11_copies (Or.inl ⟨rfl, ml_X11_312⟩) im_X11_copies se_X11_copies (by decide) ga41 gs42 rfl (Nat.le_of_ble_eq_true rfl) en46 (s_X11_copies e44) ?_
    refine a_aload_n dX11_steps_302 rfl rfl ?_
    refine a_aload_n dX11_steps_303 rfl rfl ?_
    refine a_iload dX11_steps_304 rfl ?_
    obtain ⟨⟨ga47, gs48⟩, h⟩ := gd_t h
    obtain ⟨v49, M50, e51, h⟩ := bnd2_t h
    obtain ⟨n52, en53, e51⟩ := cal_t e51
    refine e_callV (As := [.int x4]) (st := [.ref a0]) (a := a0) (ci := 11) false dX11_steps_306 mw_X11_behind (Or.inl ⟨rfl, ml_X11_309⟩) im_X11_behind se_X11_behind (by decide) ga47 gs48 rfl (Nat.le_of_ble_eq_true rfl) en53 (s_X11_behind e51) ?_
    refine a_iload dX11_steps_309 rfl ?_
    refine a_aload_n dX11_steps_311 rfl rfl ?_
    obtain ⟨⟨ga54, gs55⟩, h⟩ := gd_t h
    obtain ⟨r56, e57, h⟩ := bnd_t h
    refine a_get (v := .ref r56) dX11_steps_312 fl_11_90 ga54 gs55 (gvR e57 rfl) ?_
    refine a_iload_n dX11_steps_315 rfl rfl ?_
    obtain ⟨⟨ga58, gn59, gs60, gi61⟩, h⟩ := gd_t h
    refine a_iaload dX11_steps_316 ga58 gs60 gi61 ?_
    refine a_iconst (v := 1) dX11_steps_317 (by decide) ?_
    obtain ⟨_, M62, e63, h⟩ := bnd2_t h
    obtain ⟨n64, en65, e63⟩ := cal_t e63
    refine e_callV (As := [.int v49, .int x5, .int (M50.2.2.1 r56 (x1.toNatClampNeg)), .int 1]) (st := []) (a := a0) (ci := 11) false dX11_steps_318 mw_X11_copies (Or.inl ⟨rfl, ml_X11_312⟩) im_X11_copies se_X11_copies (by decide) ga54 gs55 rfl (Nat.le_of_ble_eq_true rfl) en65 (s_X11_copies e63) ?_
    refine a_iinc (v := (x6 + 1)) dX11_steps_321 rfl (by first | rfl | decide) (Nat.le_of_ble_eq_true rfl) (lv2 := [(6, .int (x6 + 1)), (0, .ref a0), (1, .int x1), (2, .int x2), (4, .int x4), (5, .int x5)]) rfl ?_
    refine a_goto 254 dX11_steps_324 (by decide) ?_
    exact a_lv (lv2 := [(0, .ref a0), (1, .int x1), (2, .int x2), (4, .int x4), (5, .int x5), (6, .int (x6 + 1))]) (fa_cons rfl (fa_cons rfl (fa_cons rfl (fa_cons rfl (fa_cons rfl (fa_cons rfl fa_nil)))))) (hJ _ _ _ h)
set_option maxHeartbeats 4000000 in
set_option maxRecDepth 100000 in
noncomputable def T_X11_steps_361.{u} {α : Sort u} (J : Nat → List Value → Mem → α) (R : Int32 → Mem → α) (N : α) (n : Nat) (a0 : Nat) (x2 : Int32) (x5 : Int32) (M : Mem) : α := gd (fO M a0 11) N (bnd2 (cal n (fun n => f_X11_copies n a0 x5 (M.2.2.1 a0 24) 0 0 M)) N (fun _ M3 => gd (fO M3 a0 11) N (bnd2 (cal n (fun n => f_X11_turns n a0 M3)) N (fun _ M9 => gd (fO M9 a0 11) N (bnd2 (cal n (fun n => f_X11_tidies n a0 M9)) N (fun _ M15 => R x2 M15))))))
set_option maxHeartbeats 4000000 in
set_option maxRecDepth 100000 in
theorem n_X11_steps_361.{u, v} {α : Sort u} {β : Sort v} (h : α → β) (J : Nat → List Value → Mem → α) (R : Int32 → Mem → α) (N : α) (n : Nat) (a0 : Nat) (x2 : Int32) (x5 : Int32) (M : Mem) : h (T_X11_steps_361 J R N n a0 x2 x5 M) = T_X11_steps_361 (fun c l M => h (J c l M)) (fun v M => h (R v M)) (h N) n a0 x2 x5 M := by
  simp only [T_X11_steps_361, nat_ite h, nat_gd h, nat_bnd h, nat_bnd2 h]
set_option maxHeartbeats 4000000 in
set_option maxRecDepth 100000 in
theorem w_X11_steps_361 {X : Nat × (Nat → Int32)} {al : Bool} {n : Nat} {Q : Option Value → Mem → Prop} {J : Nat → List Value → Mem → Prop} (hJ : ∀ c l M, J c l M → PW_X11_steps X al n Q c l M) {R : Int32 → Mem → Prop} (hR : ∀ v M, R v M → Q (some (.int v)) M) {a0 : Nat} {x2 : Int32} {x5 : Int32} {M : Mem} (h : T_X11_steps_361 J R False n a0 x2 x5 M) : AW X (RX11, cX11_steps, 7, (some .int), false, al, n) 0 0 361 [(0, .ref a0), (2, .int x2), (5, .int x5)] [] M Q := by
  unfold T_X11_steps_361 at h
  refine a_aload_n dX11_steps_361 rfl rfl ?_
  refine a_iload dX11_steps_362 rfl ?_
  refine a_aload_n dX11_steps_364 rfl rfl ?_
  obtain ⟨⟨ga1, gs2⟩, h⟩ := gd_t h
  refine a_get (v := .int (M.2.2.1 a0 24)) dX11_steps_365 fl_11_151 ga1 gs2 rfl ?_
  refine a_iconst (v := 0) dX11_steps_368 (by decide) ?_
  refine a_iconst (v := 0) dX11_steps_369 (by decide) ?_
  obtain ⟨_, M3, e4, h⟩ := bnd2_t h
  obtain ⟨n5, en6, e4⟩ := cal_t e4
  refine e_callV (As := [.int x5, .int (M.2.2.1 a0 24), .int 0, .int 0]) (st := []) (a := a0) (ci := 11) false dX11_steps_370 mw_X11_copies (Or.inl ⟨rfl, ml_X11_312⟩) im_X11_copies se_X11_copies (by decide) ga1 gs2 rfl (Nat.le_of_ble_eq_true rfl) en6 (s_X11_copies e4) ?_
  refine a_aload_n dX11_steps_373 rfl rfl ?_
  obtain ⟨⟨ga7, gs8⟩, h⟩ := gd_t h
  obtain ⟨_, M9, e10, h⟩ := bnd2_t h
  obtain ⟨n11, en12, e10⟩ := cal_t e10
  refine e_callV (As := []) (st := []) (a := a0) (ci := 11) false dX11_steps_374 mw_X11_turns (Or.inl ⟨rfl, ml_X11_340⟩) im_X11_turns se_X11_turns (by decide) ga7 gs8 rfl (Nat.le_of_ble_eq_true rfl) en12 (s_X11_turns e10) ?_
  refine a_aload_n dX11_steps_377 rfl rfl ?_
  obtain ⟨⟨ga13, gs14⟩, h⟩ := gd_t h
  obtain ⟨_, M15, e16, h⟩ := bnd2_t h
  obtain ⟨n17, en18, e16⟩ := cal_t e16
  refine e_callV (As := []) (st := []) (a := a0) (ci := 11) false dX11_steps_378 mw_X11_tidies (Or.inl ⟨rfl, ml_X11_198⟩) im_X11_tidies se_X11_tidies (by decide) ga13 gs14 rfl (Nat.le_of_ble_eq_true rfl) en18 (s_X11_tidies e16) ?_
  refine a_iload_n dX11_steps_381 rfl rfl ?_
  exact a_iret dX11_steps_382 rfl (hR _ _ h)
set_option maxHeartbeats 4000000 in
set_option maxRecDepth 100000 in
noncomputable def st_X11_steps (n : Nat) (s : Sg) : Option (Sg ⊕ (Int32 × Mem)) := if s.1 = 0 then vR s.2.1 none (fun a0 t => vE t none (T_X11_steps_0 (fun c l M => some (.inl (c, l, M))) (fun v M => some (.inr (v, M))) none n a0 s.2.2)) else if s.1 = 254 then vR s.2.1 none (fun a0 t => vI t none (fun x1 t => vI t none (fun x2 t => vI t none (fun x4 t => vI t none (fun x5 t => vI t none (fun x6 t => vE t none (T_X11_steps_254 (fun c l M => some (.inl (c, l, M))) (fun v M => some (.inr (v, M))) none n a0 x1 x2 x4 x5 x6 s.2.2))))))) else if s.1 = 361 then vR s.2.1 none (fun a0 t => vI t none (fun x2 t => vI t none (fun x5 t => vE t none (T_X11_steps_361 (fun c l M => some (.inl (c, l, M))) (fun v M => some (.inr (v, M))) none n a0 x2 x5 s.2.2)))) else none
noncomputable abbrev g_X11_steps_0 (n : Nat) (a0 : Nat) (M : Mem) : Option (Int32 × Mem) := lp (st_X11_steps n) (0, [.ref a0], M)
set_option maxHeartbeats 4000000 in
set_option maxRecDepth 100000 in
theorem ge_X11_steps_0 (n : Nat) (a0 : Nat) (M : Mem) : g_X11_steps_0 n a0 M = T_X11_steps_0 (fun c l M => lp (st_X11_steps n) (c, l, M)) (fun v M => some (v, M)) none n a0 M := (lp_eq _ _).trans (n_X11_steps_0 (lpK (st_X11_steps n)) (fun c l M => some (.inl (c, l, M))) (fun v M => some (.inr (v, M))) none n a0 M)
noncomputable abbrev g_X11_steps_254 (n : Nat) (a0 : Nat) (x1 : Int32) (x2 : Int32) (x4 : Int32) (x5 : Int32) (x6 : Int32) (M : Mem) : Option (Int32 × Mem) := lp (st_X11_steps n) (254, [.ref a0, .int x1, .int x2, .int x4, .int x5, .int x6], M)
set_option maxHeartbeats 4000000 in
set_option maxRecDepth 100000 in
theorem ge_X11_steps_254 (n : Nat) (a0 : Nat) (x1 : Int32) (x2 : Int32) (x4 : Int32) (x5 : Int32) (x6 : Int32) (M : Mem) : g_X11_steps_254 n a0 x1 x2 x4 x5 x6 M = T_X11_steps_254 (fun c l M => lp (st_X11_steps n) (c, l, M)) (fun v M => some (v, M)) none n a0 x1 x2 x4 x5 x6 M := (lp_eq _ _).trans (n_X11_steps_254 (lpK (st_X11_steps n)) (fun c l M => some (.inl (c, l, M))) (fun v M => some (.inr (v, M))) none n a0 x1 x2 x4 x5 x6 M)
noncomputable abbrev g_X11_steps_361 (n : Nat) (a0 : Nat) (x2 : Int32) (x5 : Int32) (M : Mem) : Option (Int32 × Mem) := lp (st_X11_steps n) (361, [.ref a0, .int x2, .int x5], M)
set_option maxHeartbeats 4000000 in
set_option maxRecDepth 100000 in
theorem ge_X11_steps_361 (n : Nat) (a0 : Nat) (x2 : Int32) (x5 : Int32) (M : Mem) : g_X11_steps_361 n a0 x2 x5 M = T_X11_steps_361 (fun c l M => lp (st_X11_steps n) (c, l, M)) (fun v M => some (v, M)) none n a0 x2 x5 M := (lp_eq _ _).trans (n_X11_steps_361 (lpK (st_X11_steps n)) (fun c l M => some (.inl (c, l, M))) (fun v M => some (.inr (v, M))) none n a0 x2 x5 M)
noncomputable def b_X11_steps (n : Nat) (a0 : Nat) (M : Mem) : Option (Int32 × Mem) := g_X11_steps_0 n a0 M
set_option maxHeartbeats 4000000 in
set_option maxRecDepth 100000 in
theorem sb_X11_steps {X : Nat × (Nat → Int32)} {al : Bool} {n : Nat} {a0 : Nat} {M : Mem} {v : Int32} {M1 : Mem} (h : b_X11_steps n a0 M = some (v, M1)) : AE yX11_steps cX11_steps 7 (some .int) al n X [.ref a0] M (some (.int v)) M1 := by
  refine AM.of false (by decide +kernel) (by intro h; cases h) (Nat.le_of_ble_eq_true rfl) ?_
  refine lp_snd (P := fun s r => PW_X11_steps X al n (fun v M2 => v = (some (.int r.1)) ∧ M2 = r.2) s.1 s.2.1 s.2.2) ?_ h
  clear h
  rintro ⟨c, l, M⟩ r h
  unfold st_X11_steps at h
  rcases ite_p h with ⟨e, h⟩ | ⟨e, h⟩
  · replace e : c = 0 := e
    subst e
    obtain ⟨a0, tt0, e, h⟩ := vR_p id h
    replace e : l = _ := e
    subst e
    obtain ⟨e, h⟩ := vE_p id h
    replace e : tt0 = [] := e
    subst e
    exact w_X11_steps_0 (J := fun c l M => PW_X11_steps X al n (fun v M2 => v = (some (.int r.1)) ∧ M2 = r.2) c l M) (R := fun v M => (v, M) = r) (fun _ _ _ h => h) (fun v M h => by cases h; exact ⟨rfl, rfl⟩) ((n_X11_steps_0 (lpP (fun (s : Sg) (r : Int32 × Mem) => PW_X11_steps X al n (fun v M2 => v = (some (.int r.1)) ∧ M2 = r.2) s.1 s.2.1 s.2.2) r) (fun c l M => some (.inl (c, l, M))) (fun v M => some (.inr (v, M))) none n a0 M).mp h)
  rcases ite_p h with ⟨e, h⟩ | ⟨e, h⟩
  · replace e : c = 254 := e
    subst e
    obtain ⟨a0, tt0, e, h⟩ := vR_p id h
    replace e : l = _ := e
    subst e
    obtain ⟨x1, tt1, e, h⟩ := vI_p id h
    replace e : tt0 = _ := e
    subst e
    obtain ⟨x2, tt2, e, h⟩ := vI_p id h
    replace e : tt1 = _ := e
    subst e
    obtain ⟨x4, tt3, e, h⟩ := vI_p id h
    replace e : tt2 = _ := e
    subst e
    obtain ⟨x5, tt4, e, h⟩ := vI_p id h
    replace e : tt3 = _ := e
    subst e
    obtain ⟨x6, tt5, e, h⟩ := vI_p id h
    replace e : tt4 = _ := e
    subst e
    obtain ⟨e, h⟩ := vE_p id h
    replace e : tt5 = [] := e
    subst e
    exact w_X11_steps_254 (J := fun c l M => PW_X11_steps X al n (fun v M2 => v = (some (.int r.1)) ∧ M2 = r.2) c l M) (R := fun v M => (v, M) = r) (fun _ _ _ h => h) (fun v M h => by cases h; exact ⟨rfl, rfl⟩) ((n_X11_steps_254 (lpP (fun (s : Sg) (r : Int32 × Mem) => PW_X11_steps X al n (fun v M2 => v = (some (.int r.1)) ∧ M2 = r.2) s.1 s.2.1 s.2.2) r) (fun c l M => some (.inl (c, l, M))) (fun v M => some (.inr (v, M))) none n a0 x1 x2 x4 x5 x6 M).mp h)
  rcases ite_p h with ⟨e, h⟩ | ⟨e, h⟩
  · replace e : c = 361 := e
    subst e
    obtain ⟨a0, tt0, e, h⟩ := vR_p id h
    replace e : l = _ := e
    subst e
    obtain ⟨x2, tt1, e, h⟩ := vI_p id h
    replace e : tt0 = _ := e
    subst e
    obtain ⟨x5, tt2, e, h⟩ := vI_p id h
    replace e : tt1 = _ := e
    subst e
    obtain ⟨e, h⟩ := vE_p id h
    replace e : tt2 = [] := e
    subst e
    exact w_X11_steps_361 (J := fun c l M => PW_X11_steps X al n (fun v M2 => v = (some (.int r.1)) ∧ M2 = r.2) c l M) (R := fun v M => (v, M) = r) (fun _ _ _ h => h) (fun v M h => by cases h; exact ⟨rfl, rfl⟩) ((n_X11_steps_361 (lpP (fun (s : Sg) (r : Int32 × Mem) => PW_X11_steps X al n (fun v M2 => v = (some (.int r.1)) ∧ M2 = r.2) s.1 s.2.1 s.2.2) r) (fun c l M => some (.inl (c, l, M))) (fun v M => some (.inr (v, M))) none n a0 x2 x5 M).mp h)
  · exact h.elim

noncomputable abbrev f_X11_steps := b_X11_steps
theorem s_X11_steps {X : Nat × (Nat → Int32)} {al : Bool} {n : Nat} {a0 : Nat} {M : Mem} {v : Int32} {M1 : Mem} (h : f_X11_steps n a0 M = some (v, M1)) : AE yX11_steps cX11_steps 7 (some .int) al n X [.ref a0] M (some (.int v)) M1 := sb_X11_steps h
