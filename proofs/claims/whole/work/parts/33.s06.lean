/-! METHODS AS FUNCTIONS, written by wip/gen/shallow.py -/
set_option maxHeartbeats 4000000 in
set_option maxRecDepth 100000 in
noncomputable def T_X11_fails_0.{u} {α : Sort u} (R : Unit → Mem → α) (N : α) (n : Nat) (a0 : Nat) (x1 : Int32) (x2 : Int32) (M : Mem) : α := gd (fO M a0 11) N (if (M.2.2.1 a0 30) = 0 then R () (wI (wI M a0 30 x1) a0 31 x2) else R () M)
set_option maxHeartbeats 4000000 in
set_option maxRecDepth 100000 in
theorem n_X11_fails_0.{u, v} {α : Sort u} {β : Sort v} (h : α → β) (R : Unit → Mem → α) (N : α) (n : Nat) (a0 : Nat) (x1 : Int32) (x2 : Int32) (M : Mem) : h (T_X11_fails_0 R N n a0 x1 x2 M) = T_X11_fails_0 (fun v M => h (R v M)) (h N) n a0 x1 x2 M := by
  simp only [T_X11_fails_0, nat_ite h, nat_gd h, nat_bnd h, nat_bnd2 h]
set_option maxHeartbeats 4000000 in
set_option maxRecDepth 100000 in
theorem w_X11_fails_0 {X : Nat × (Nat → Int32)} {al : Bool} {n : Nat} {Q : Option Value → Mem → Prop} {R : Unit → Mem → Prop} (hR : ∀ v M, R v M → Q none M) {a0 : Nat} {x1 : Int32} {x2 : Int32} {M : Mem} (h : T_X11_fails_0 R False n a0 x1 x2 M) : AW X (RX11, cX11_fails, 3, none, false, al, n) 0 0 0 [(0, .ref a0), (1, .int x1), (2, .int x2)] [] M Q := by
  unfold T_X11_fails_0 at h
  refine a_aload_n dX11_fails_0 rfl rfl ?_
  obtain ⟨⟨ga1, gs2⟩, h⟩ := gd_t h
  refine a_get (v := .int (M.2.2.1 a0 30)) dX11_fails_1 fl_11_163 ga1 gs2 rfl ?_
  refine a_if_eq 8 dX11_fails_4 (by decide) (fun c3 => ?_) (fun c3 => ?_)
  · replace h := ite_t c3 h
    refine a_aload_n dX11_fails_8 rfl rfl ?_
    refine a_iload_n dX11_fails_9 rfl rfl ?_
    refine a_putI dX11_fails_10 (Or.inl ⟨fl_11_163, Or.inl rfl⟩) rfl ga1 gs2 rfl rfl ?_
    refine a_aload_n dX11_fails_13 rfl rfl ?_
    refine a_iload_n dX11_fails_14 rfl rfl ?_
    refine a_putI dX11_fails_15 (Or.inl ⟨fl_11_166, Or.inl rfl⟩) rfl ga1 gs2 rfl rfl ?_
    exact a_vret dX11_fails_18 rfl (hR _ _ h)
  · replace h := ite_f c3 h
    exact a_vret dX11_fails_7 rfl (hR _ _ h)
noncomputable def b_X11_fails (n : Nat) (a0 : Nat) (x1 : Int32) (x2 : Int32) (M : Mem) : Option (Unit × Mem) := T_X11_fails_0 (fun v M => some (v, M)) none n a0 x1 x2 M
set_option maxHeartbeats 4000000 in
set_option maxRecDepth 100000 in
theorem sb_X11_fails {X : Nat × (Nat → Int32)} {al : Bool} {n : Nat} {a0 : Nat} {x1 : Int32} {x2 : Int32} {M : Mem} {v : Unit} {M1 : Mem} (h : b_X11_fails n a0 x1 x2 M = some (v, M1)) : AE yX11_fails cX11_fails 3 none al n X [.ref a0, .int x1, .int x2] M none M1 := by
  refine AM.of false (by decide +kernel) (by intro h; cases h) (Nat.le_of_ble_eq_true rfl) ?_
  have h2 : T_X11_fails_0 (fun v2 M2 => some (v2, M2) = some (v, M1)) (none = some (v, M1)) n a0 x1 x2 M := (n_X11_fails_0 (fun o => o = some (v, M1)) (fun v M => some (v, M)) none n a0 x1 x2 M).mp h
  have h3 : ((none : Option (Unit × Mem)) = some (v, M1)) = False := eq_false (by intro q; cases q)
  rw [h3] at h2
  exact w_X11_fails_0 (fun v2 M2 h => by cases h; exact ⟨rfl, rfl⟩) h2

noncomputable abbrev f_X11_fails := b_X11_fails
theorem s_X11_fails {X : Nat × (Nat → Int32)} {al : Bool} {n : Nat} {a0 : Nat} {x1 : Int32} {x2 : Int32} {M : Mem} {v : Unit} {M1 : Mem} (h : f_X11_fails n a0 x1 x2 M = some (v, M1)) : AE yX11_fails cX11_fails 3 none al n X [.ref a0, .int x1, .int x2] M none M1 := sb_X11_fails h
def ix_X11_isNamed (c : Nat) : List Nat := if c = 0 then [0, 1, 2, 3, 4] else if c = 18 then [0, 1, 3, 4, 5, 6] else []
def PW_X11_isNamed (X : Nat × (Nat → Int32)) (al : Bool) (n : Nat) (Q : Option Value → Mem → Prop) (c : Nat) (l : List Value) (M : Mem) : Prop := AW X (RX11, cX11_isNamed, 7, (some .boolean), false, al, n) 0 0 c (List.zip (ix_X11_isNamed c) l) (l.drop (ix_X11_isNamed c).length) M Q
set_option maxHeartbeats 4000000 in
set_option maxRecDepth 100000 in
noncomputable def T_X11_isNamed_0.{u} {α : Sort u} (J : Nat → List Value → Mem → α) (R : Int32 → Mem → α) (N : α) (n : Nat) (a0 : Nat) (a1 : Nat) (a2 : Nat) (x3 : Int32) (x4 : Int32) (M : Mem) : α := gd (fA M a2 1 x3) N (if (M.2.2.1 a2 (x3.toNatClampNeg)) = x4 then J 18 [.ref a0, .ref a1, .int x3, .int x4, .int 1, .int 0] M else J 18 [.ref a0, .ref a1, .int x3, .int x4, .int 0, .int 0] M)
set_option maxHeartbeats 4000000 in
set_option maxRecDepth 100000 in
theorem n_X11_isNamed_0.{u, v} {α : Sort u} {β : Sort v} (h : α → β) (J : Nat → List Value → Mem → α) (R : Int32 → Mem → α) (N : α) (n : Nat) (a0 : Nat) (a1 : Nat) (a2 : Nat) (x3 : Int32) (x4 : Int32) (M : Mem) : h (T_X11_isNamed_0 J R N n a0 a1 a2 x3 x4 M) = T_X11_isNamed_0 (fun c l M => h (J c l M)) (fun v M => h (R v M)) (h N) n a0 a1 a2 x3 x4 M := by
  simp only [T_X11_isNamed_0, nat_ite h, nat_gd h, nat_bnd h, nat_bnd2 h]
set_option maxHeartbeats 4000000 in
set_option maxRecDepth 100000 in
theorem w_X11_isNamed_0 {X : Nat × (Nat → Int32)} {al : Bool} {n : Nat} {Q : Option Value → Mem → Prop} {J : Nat → List Value → Mem → Prop} (hJ : ∀ c l M, J c l M → PW_X11_isNamed X al n Q c l M) {R : Int32 → Mem → Prop} (hR : ∀ v M, R v M → Q (some (.int v)) M) {a0 : Nat} {a1 : Nat} {a2 : Nat} {x3 : Int32} {x4 : Int32} {M : Mem} (h : T_X11_isNamed_0 J R False n a0 a1 a2 x3 x4 M) : AW X (RX11, cX11_isNamed, 7, (some .boolean), false, al, n) 0 0 0 [(0, .ref a0), (1, .ref a1), (2, .ref a2), (3, .int x3), (4, .int x4)] [] M Q := by
  unfold T_X11_isNamed_0 at h
  refine a_aload_n dX11_isNamed_0 rfl rfl ?_
  refine a_iload_n dX11_isNamed_1 rfl rfl ?_
  obtain ⟨⟨ga1, gn2, gs3, gi4⟩, h⟩ := gd_t h
  refine a_iaload dX11_isNamed_2 ga1 gs3 gi4 ?_
  refine a_iload dX11_isNamed_3 rfl ?_
  refine a_icmp_ne 12 dX11_isNamed_5 (by decide) (fun c5 => ?_) (fun c5 => ?_)
  · replace h := ite_f c5 h
    refine a_iconst (v := 0) dX11_isNamed_12 (by decide) ?_
    refine a_istore dX11_isNamed_13 (Nat.le_of_ble_eq_true rfl) (lv2 := [(5, .int 0), (0, .ref a0), (1, .ref a1), (2, .ref a2), (3, .int x3), (4, .int x4)]) rfl ?_
    refine a_iconst (v := 0) dX11_isNamed_15 (by decide) ?_
    refine a_istore dX11_isNamed_16 (Nat.le_of_ble_eq_true rfl) (lv2 := [(6, .int 0), (5, .int 0), (0, .ref a0), (1, .ref a1), (2, .ref a2), (3, .int x3), (4, .int x4)]) rfl ?_
    exact a_lv (lv2 := [(0, .ref a0), (1, .ref a1), (3, .int x3), (4, .int x4), (5, .int 0), (6, .int 0)]) (fa_cons rfl (fa_cons rfl (fa_cons rfl (fa_cons rfl (fa_cons rfl (fa_cons rfl fa_nil)))))) (hJ _ _ _ h)
  · replace h := ite_t c5 h
    refine a_iconst (v := 1) dX11_isNamed_8 (by decide) ?_
    refine a_goto 13 dX11_isNamed_9 (by decide) ?_
    refine a_istore dX11_isNamed_13 (Nat.le_of_ble_eq_true rfl) (lv2 := [(5, .int 1), (0, .ref a0), (1, .ref a1), (2, .ref a2), (3, .int x3), (4, .int x4)]) rfl ?_
    refine a_iconst (v := 0) dX11_isNamed_15 (by decide) ?_
    refine a_istore dX11_isNamed_16 (Nat.le_of_ble_eq_true rfl) (lv2 := [(6, .int 0), (5, .int 1), (0, .ref a0), (1, .ref a1), (2, .ref a2), (3, .int x3), (4, .int x4)]) rfl ?_
    exact a_lv (lv2 := [(0, .ref a0), (1, .ref a1), (3, .int x3), (4, .int x4), (5, .int 1), (6, .int 0)]) (fa_cons rfl (fa_cons rfl (fa_cons rfl (fa_cons rfl (fa_cons rfl (fa_cons rfl fa_nil)))))) (hJ _ _ _ h)
set_option maxHeartbeats 4000000 in
set_option maxRecDepth 100000 in
noncomputable def T_X11_isNamed_18.{u} {α : Sort u} (J : Nat → List Value → Mem → α) (R : Int32 → Mem → α) (N : α) (n : Nat) (a0 : Nat) (a1 : Nat) (x3 : Int32) (x4 : Int32) (x5 : Int32) (x6 : Int32) (M : Mem) : α := if x4 ≤ x6 then gd (narrow .boolean (.int x5) = .int x5) N (R x5 M) else if x5 = 0 then gd (narrow .boolean (.int x5) = .int x5) N (R x5 M) else gd (fA M a1 1 ((4 * x3) + x6)) N (gd (fO M a0 11) N (bnd (M.2.2.2.2 a0 26) N (fun r11 => gd (fA M r11 0 ((M.2.2.1 a0 29) + x6)) N (if (M.2.2.1 a1 (((4 * x3) + x6).toNatClampNeg)) = (M.2.2.1 r11 (((M.2.2.1 a0 29) + x6).toNatClampNeg)) then J 18 [.ref a0, .ref a1, .int x3, .int x4, .int 1, .int (x6 + 1)] M else J 18 [.ref a0, .ref a1, .int x3, .int x4, .int 0, .int (x6 + 1)] M))))
set_option maxHeartbeats 4000000 in
set_option maxRecDepth 100000 in
theorem n_X11_isNamed_18.{u, v} {α : Sort u} {β : Sort v} (h : α → β) (J : Nat → List Value → Mem → α) (R : Int32 → Mem → α) (N : α) (n : Nat) (a0 : Nat) (a1 : Nat) (x3 : Int32) (x4 : Int32) (x5 : Int32) (x6 : Int32) (M : Mem) : h (T_X11_isNamed_18 J R N n a0 a1 x3 x4 x5 x6 M) = T_X11_isNamed_18 (fun c l M => h (J c l M)) (fun v M => h (R v M)) (h N) n a0 a1 x3 x4 x5 x6 M := by
  simp only [T_X11_isNamed_18, nat_ite h, nat_gd h, nat_bnd h, nat_bnd2 h]
set_option maxHeartbeats 4000000 in
set_option maxRecDepth 100000 in
theorem w_X11_isNamed_18 {X : Nat × (Nat → Int32)} {al : Bool} {n : Nat} {Q : Option Value → Mem → Prop} {J : Nat → List Value → Mem → Prop} (hJ : ∀ c l M, J c l M → PW_X11_isNamed X al n Q c l M) {R : Int32 → Mem → Prop} (hR : ∀ v M, R v M → Q (some (.int v)) M) {a0 : Nat} {a1 : Nat} {x3 : Int32} {x4 : Int32} {x5 : Int32} {x6 : Int32} {M : Mem} (h : T_X11_isNamed_18 J R False n a0 a1 x3 x4 x5 x6 M) : AW X (RX11, cX11_isNamed, 7, (some .boolean), false, al, n) 0 0 18 [(0, .ref a0), (1, .ref a1), (3, .int x3), (4, .int x4), (5, .int x5), (6, .int x6)] [] M Q := by
  unfold T_X11_isNamed_18 at h
  refine a_iload dX11_isNamed_18 rfl ?_
  refine a_iload dX11_isNamed_20 rfl ?_
  refine a_icmp_ge 66 dX11_isNamed_22 (by decide) (fun c1 => ?_) (fun c1 => ?_)
  · replace h := ite_t c1 h
    refine a_iload dX11_isNamed_66 rfl ?_
    obtain ⟨gb2, h⟩ := gd_t h
    exact a_zret dX11_isNamed_68 rfl gb2 (hR _ _ h)
  · replace h := ite_f c1 h
    refine a_iload dX11_isNamed_25 rfl ?_
    refine a_if_eq 66 dX11_isNamed_27 (by decide) (fun c3 => ?_) (fun c3 => ?_)
    · replace h := ite_t c3 h
      refine a_iload dX11_isNamed_66 rfl ?_
      obtain ⟨gb4, h⟩ := gd_t h
      exact a_zret dX11_isNamed_68 rfl gb4 (hR _ _ h)
    · replace h := ite_f c3 h
      refine a_aload_n dX11_isNamed_30 rfl rfl ?_
      refine a_iconst (v := 4) dX11_isNamed_31 (by decide) ?_
      refine a_iload_n dX11_isNamed_32 rfl rfl ?_
      refine a_imul dX11_isNamed_33 ?_
      refine a_iload dX11_isNamed_34 rfl ?_
      refine a_iadd dX11_isNamed_36 ?_
      obtain ⟨⟨ga5, gn6, gs7, gi8⟩, h⟩ := gd_t h
      refine a_iaload dX11_isNamed_37 ga5 gs7 gi8 ?_
      refine a_aload_n dX11_isNamed_38 rfl rfl ?_
      obtain ⟨⟨ga9, gs10⟩, h⟩ := gd_t h
      obtain ⟨r11, e12, h⟩ := bnd_t h
      refine a_get (v := .ref r11) dX11_isNamed_39 fl_11_71 ga9 gs10 (gvR e12 rfl) ?_
      refine a_aload_n dX11_isNamed_42 rfl rfl ?_
      refine a_get (v := .int (M.2.2.1 a0 29)) dX11_isNamed_43 fl_11_157 ga9 gs10 rfl ?_
      refine a_iload dX11_isNamed_46 rfl ?_
      refine a_iadd dX11_isNamed_48 ?_
      obtain ⟨⟨ga13, gn14, gs15, gi16⟩, h⟩ := gd_t h
      refine a_baload dX11_isNamed_49 (by decide) ga13 gs15 gi16 ?_
      refine a_icmp_ne 57 dX11_isNamed_50 (by decide) (fun c17 => ?_) (fun c17 => ?_)
      · replace h := ite_f c17 h
        refine a_iconst (v := 0) dX11_isNamed_57 (by decide) ?_
        refine a_istore dX11_isNamed_58 (Nat.le_of_ble_eq_true rfl) (lv2 := [(5, .int 0), (0, .ref a0), (1, .ref a1), (3, .int x3), (4, .int x4), (6, .int x6)]) rfl ?_
        refine a_iinc (v := (x6 + 1)) dX11_isNamed_60 rfl (by first | rfl | decide) (Nat.le_of_ble_eq_true rfl) (lv2 := [(6, .int (x6 + 1)), (5, .int 0), (0, .ref a0), (1, .ref a1), (3, .int x3), (4, .int x4)]) rfl ?_
        refine a_goto 18 dX11_isNamed_63 (by decide) ?_
        exact a_lv (lv2 := [(0, .ref a0), (1, .ref a1), (3, .int x3), (4, .int x4), (5, .int 0), (6, .int (x6 + 1))]) (fa_cons rfl (fa_cons rfl (fa_cons rfl (fa_cons rfl (fa_cons rfl (fa_cons rfl fa_nil)))))) (hJ _ _ _ h)
      · replace h := ite_t c17 h
        refine a_iconst (v := 1) dX11_isNamed_53 (by decide) ?_
        refine a_goto 58 dX11_isNamed_54 (by decide) ?_
        refine a_istore dX11_isNamed_58 (Nat.le_of_ble_eq_true rfl) (lv2 := [(5, .int 1), (0, .ref a0), (1, .ref a1), (3, .int x3), (4, .int x4), (6, .int x6)]) rfl ?_
        refine a_iinc (v := (x6 + 1)) dX11_isNamed_60 rfl (by first | rfl | decide) (Nat.le_of_ble_eq_true rfl) (lv2 := [(6, .int (x6 + 1)), (5, .int 1), (0, .ref a0), (1, .ref a1), (3, .int x3), (4, .int x4)]) rfl ?_
        refine a_goto 18 dX11_isNamed_63 (by decide) ?_
        exact a_lv (lv2 := [(0, .ref a0), (1, .ref a1), (3, .int x3), (4, .int x4), (5, .int 1), (6, .int (x6 + 1))]) (fa_cons rfl (fa_cons rfl (fa_cons rfl (fa_cons rfl (fa_cons rfl (fa_cons rfl fa_nil)))))) (hJ _ _ _ h)
set_option maxHeartbeats 4000000 in
set_option maxRecDepth 100000 in
noncomputable def st_X11_isNamed (n : Nat) (s : Sg) : Option (Sg ⊕ (Int32 × Mem)) := if s.1 = 0 then vR s.2.1 none (fun a0 t => vR t none (fun a1 t => vR t none (fun a2 t => vI t none (fun x3 t => vI t none (fun x4 t => vE t none (T_X11_isNamed_0 (fun c l M => some (.inl (c, l, M))) (fun v M => some (.inr (v, M))) none n a0 a1 a2 x3 x4 s.2.2)))))) else if s.1 = 18 then vR s.2.1 none (fun a0 t => vR t none (fun a1 t => vI t none (fun x3 t => vI t none (fun x4 t => vI t none (fun x5 t => vI t none (fun x6 t => vE t none (T_X11_isNamed_18 (fun c l M => some (.inl (c, l, M))) (fun v M => some (.inr (v, M))) none n a0 a1 x3 x4 x5 x6 s.2.2))))))) else none
noncomputable abbrev g_X11_isNamed_0 (n : Nat) (a0 : Nat) (a1 : Nat) (a2 : Nat) (x3 : Int32) (x4 : Int32) (M : Mem) : Option (Int32 × Mem) := lp (st_X11_isNamed n) (0, [.ref a0, .ref a1, .ref a2, .int x3, .int x4], M)
set_option maxHeartbeats 4000000 in
set_option maxRecDepth 100000 in
theorem ge_X11_isNamed_0 (n : Nat) (a0 : Nat) (a1 : Nat) (a2 : Nat) (x3 : Int32) (x4 : Int32) (M : Mem) : g_X11_isNamed_0 n a0 a1 a2 x3 x4 M = T_X11_isNamed_0 (fun c l M => lp (st_X11_isNamed n) (c, l, M)) (fun v M => some (v, M)) none n a0 a1 a2 x3 x4 M := (lp_eq _ _).trans (n_X11_isNamed_0 (lpK (st_X11_isNamed n)) (fun c l M => some (.inl (c, l, M))) (fun v M => some (.inr (v, M))) none n a0 a1 a2 x3 x4 M)
noncomputable abbrev g_X11_isNamed_18 (n : Nat) (a0 : Nat) (a1 : Nat) (x3 : Int32) (x4 : Int32) (x5 : Int32) (x6 : Int32) (M : Mem) : Option (Int32 × Mem) := lp (st_X11_isNamed n) (18, [.ref a0, .ref a1, .int x3, .int x4, .int x5, .int x6], M)
set_option maxHeartbeats 4000000 in
set_option maxRecDepth 100000 in
theorem ge_X11_isNamed_18 (n : Nat) (a0 : Nat) (a1 : Nat) (x3 : Int32) (x4 : Int32) (x5 : Int32) (x6 : Int32) (M : Mem) : g_X11_isNamed_18 n a0 a1 x3 x4 x5 x6 M = T_X11_isNamed_18 (fun c l M => lp (st_X11_isNamed n) (c, l, M)) (fun v M => some (v, M)) none n a0 a1 x3 x4 x5 x6 M := (lp_eq _ _).trans (n_X11_isNamed_18 (lpK (st_X11_isNamed n)) (fun c l M => some (.inl (c, l, M))) (fun v M => some (.inr (v, M))) none n a0 a1 x3 x4 x5 x6 M)
noncomputable def b_X11_isNamed (n : Nat) (a0 : Nat) (a1 : Nat) (a2 : Nat) (x3 : Int32) (x4 : Int32) (M : Mem) : Option (Int32 × Mem) := g_X11_isNamed_0 n a0 a1 a2 x3 x4 M
set_option maxHeartbeats 4000000 in
set_option maxRecDepth 100000 in
theorem sb_X11_isNamed {X : Nat × (Nat → Int32)} {al : Bool} {n : Nat} {a0 : Nat} {a1 : Nat} {a2 : Nat} {x3 : Int32} {x4 : Int32} {M : Mem} {v : Int32} {M1 : Mem} (h : b_X11_isNamed n a0 a1 a2 x3 x4 M = some (v, M1)) : AE yX11_isNamed cX11_isNamed 7 (some .boolean) al n X [.ref a0, .ref a1, .ref a2, .int x3, .int x4] M (some (.int v)) M1 := by
  refine AM.of false (by decide +kernel) (by intro h; cases h) (Nat.le_of_ble_eq_true rfl) ?_
  refine lp_snd (P := fun s r => PW_X11_isNamed X al n (fun v M2 => v = (some (.int r.1)) ∧ M2 = r.2) s.1 s.2.1 s.2.2) ?_ h
  clear h
  rintro ⟨c, l, M⟩ r h
  unfold st_X11_isNamed at h
  rcases ite_p h with ⟨e, h⟩ | ⟨e, h⟩
  · replace e : c = 0 := e
    subst e
    obtain ⟨a0, tt0, e, h⟩ := vR_p id h
    replace e : l = _ := e
    subst e
    obtain ⟨a1, tt1, e, h⟩ := vR_p id h
    replace e : tt0 = _ := e
    subst e
    obtain ⟨a2, tt2, e, h⟩ := vR_p id h
    replace e : tt1 = _ := e
    subst e
    obtain ⟨x3, tt3, e, h⟩ := vI_p id h
    replace e : tt2 = _ := e
    subst e
    obtain ⟨x4, tt4, e, h⟩ := vI_p id h
    replace e : tt3 = _ := e
    subst e
    obtain ⟨e, h⟩ := vE_p id h
    replace e : tt4 = [] := e
    subst e
    exact w_X11_isNamed_0 (J := fun c l M => PW_X11_isNamed X al n (fun v M2 => v = (some (.int r.1)) ∧ M2 = r.2) c l M) (R := fun v M => (v, M) = r) (fun _ _ _ h => h) (fun v M h => by cases h; exact ⟨rfl, rfl⟩) ((n_X11_isNamed_0 (lpP (fun (s : Sg) (r : Int32 × Mem) => PW_X11_isNamed X al n (fun v M2 => v = (some (.int r.1)) ∧ M2 = r.2) s.1 s.2.1 s.2.2) r) (fun c l M => some (.inl (c, l, M))) (fun v M => some (.inr (v, M))) none n a0 a1 a2 x3 x4 M).mp h)
  rcases ite_p h with ⟨e, h⟩ | ⟨e, h⟩
  · replace e : c = 18 := e
    subst e
    obtain ⟨a0, tt0, e, h⟩ := vR_p id h
    replace e : l = _ := e
    subst e
    obtain ⟨a1, tt1, e, h⟩ := vR_p id h
    replace e : tt0 = _ := e
    subst e
    obtain ⟨x3, tt2, e, h⟩ := vI_p id h
    replace e : tt1 = _ := e
    subst e
    obtain ⟨x4, tt3, e, h⟩ := vI_p id h
    replace e : tt2 = _ := e
    subst e
    obtain ⟨x5, tt4, e, h⟩ := vI_p id h
    replace e : tt3 = _ := e
    subst e
    obtain ⟨x6, tt5, e, h⟩ := vI_p id h
    replace e : tt4 = _ := e
    subst e
    obtain ⟨e, h⟩ := vE_p id h
    replace e : tt5 = [] := e
    subst e
    exact w_X11_isNamed_18 (J := fun c l M => PW_X11_isNamed X al n (fun v M2 => v = (some (.int r.1)) ∧ M2 = r.2) c l M) (R := fun v M => (v, M) = r) (fun _ _ _ h => h) (fun v M h => by cases h; exact ⟨rfl, rfl⟩) ((n_X11_isNamed_18 (lpP (fun (s : Sg) (r : Int32 × Mem) => PW_X11_isNamed X al n (fun v M2 => v = (some (.int r.1)) ∧ M2 = r.2) s.1 s.2.1 s.2.2) r) (fun c l M => some (.inl (c, l, M))) (fun v M => some (.inr (v, M))) none n a0 a1 x3 x4 x5 x6 M).mp h)
  · exact h.elim

noncomputable abbrev f_X11_isNamed := b_X11_isNamed
theorem s_X11_isNamed {X : Nat × (Nat → Int32)} {al : Bool} {n : Nat} {a0 : Nat} {a1 : Nat} {a2 : Nat} {x3 : Int32} {x4 : Int32} {M : Mem} {v : Int32} {M1 : Mem} (h : f_X11_isNamed n a0 a1 a2 x3 x4 M = some (v, M1)) : AE yX11_isNamed cX11_isNamed 7 (some .boolean) al n X [.ref a0, .ref a1, .ref a2, .int x3, .int x4] M (some (.int v)) M1 := sb_X11_isNamed h
def ix_X11_readFormula (c : Nat) : List Nat := if c = 0 then [0] else if c = 56 then [0, 1] else if c = 128 then [0, 1, 2] else []
def PW_X11_readFormula (X : Nat × (Nat → Int32)) (al : Bool) (n : Nat) (Q : Option Value → Mem → Prop) (c : Nat) (l : List Value) (M : Mem) : Prop := AW X (RX11, cX11_readFormula, 4, (some .int), false, al, n) 0 0 c (List.zip (ix_X11_readFormula c) l) (l.drop (ix_X11_readFormula c).length) M Q
set_option maxHeartbeats 4000000 in
set_option maxRecDepth 100000 in
noncomputable def T_X11_readFormula_0.{u} {α : Sort u} (J : Nat → List Value → Mem → α) (R : Int32 → Mem → α) (N : α) (cl : Nat → List Value → Mem → Option (Int32 × Mem)) (n : Nat) (a0 : Nat) (M : Mem) : α := gd (fO M a0 11) N (if (M.2.2.1 a0 30) = 0 then bnd2 (cal n (fun n => f_X11_wordNext n a0 M)) N (fun v4 M5 => bnd2 (cal n (fun n => f_X11_isIn n (Int32.toInt64 v4) 0 (12) M5)) N (fun v9 M10 => if v9 = 0 then gd (fO M10 a0 11) N (bnd2 (cal n (fun n => f_X11_fails n a0 1 (M10.2.2.1 a0 29) M10)) N (fun _ M24 => J 56 [.ref a0, .int v4] M24)) else gd (fO M10 a0 11) N (if (M10.2.2.1 a0 34) = 30 then bnd2 (cal n (fun n => f_X11_fails n a0 4 (M10.2.2.1 a0 29) M10)) N (fun _ M18 => J 56 [.ref a0, .int v4] M18) else J 56 [.ref a0, .int v4] M10))) else R 0 M)
set_option maxHeartbeats 4000000 in
set_option maxRecDepth 100000 in
theorem n_X11_readFormula_0.{u, v} {α : Sort u} {β : Sort v} (h : α → β) (J : Nat → List Value → Mem → α) (R : Int32 → Mem → α) (N : α) (cl : Nat → List Value → Mem → Option (Int32 × Mem)) (n : Nat) (a0 : Nat) (M : Mem) : h (T_X11_readFormula_0 J R N cl n a0 M) = T_X11_readFormula_0 (fun c l M => h (J c l M)) (fun v M => h (R v M)) (h N) cl n a0 M := by
  simp only [T_X11_readFormula_0, nat_ite h, nat_gd h, nat_bnd h, nat_bnd2 h]
set_option maxHeartbeats 4000000 in
set_option maxRecDepth 100000 in
theorem w_X11_readFormula_0 {X : Nat × (Nat → Int32)} {al : Bool} {n : Nat} {Q : Option Value → Mem → Prop} {J : Nat → List Value → Mem → Prop} (hJ : ∀ c l M, J c l M → PW_X11_readFormula X al n Q c l M) {R : Int32 → Mem → Prop} (hR : ∀ v M, R v M → Q (some (.int v)) M) {cl : Nat → List Value → Mem → Option (Int32 × Mem)} (hc_X11_readFormula : ∀ {a0 : Nat} {M : Mem} {v : Int32} {M1 : Mem}, cl 0 [.ref a0] M = some (v, M1) → ∃ k, n = k + 1 ∧ AE yX11_readFormula cX11_readFormula 4 (some .int) al k X [.ref a0] M (some (.int v)) M1) {a0 : Nat} {M : Mem} (h : T_X11_readFormula_0 J R False cl n a0 M) : AW X (RX11, cX11_readFormula, 4, (some .int), false, al, n) 0 0 0 [(0, .ref a0)] [] M Q := by
  unfold T_X11_readFormula_0 at h
  refine a_aload_n dX11_readFormula_0 rfl rfl ?_
  obtain ⟨⟨ga1, gs2⟩, h⟩ := gd_t h
  refine a_get (v := .int (M.2.2.1 a0 30)) dX11_readFormula_1 fl_11_163 ga1 gs2 rfl ?_
  refine a_if_eq 9 dX11_readFormula_4 (by decide) (fun c3 => ?_) (fun c3 => ?_)
  · replace h := ite_t c3 h
    refine a_aload_n dX11_readFormula_9 rfl rfl ?_
    obtain ⟨v4, M5, e6, h⟩ := bnd2_t h
    obtain ⟨n7, en8, e6⟩ := cal_t e6
    refine e_callV (As := []) (st := []) (a := a0) (ci := 11) false dX11_readFormula_10 mw_X11_wordNext (Or.inl ⟨rfl, ml_X11_204⟩) im_X11_wordNext se_X11_wordNext (by decide) ga1 gs2 rfl (Nat.le_of_ble_eq_true rfl) en8 (s_X11_wordNext e6) ?_
    refine a_istore_n dX11_readFormula_13 rfl (Nat.le_of_ble_eq_true rfl) (lv2 := [(1, .int v4), (0, .ref a0)]) rfl ?_
    refine a_iload_n dX11_readFormula_14 rfl rfl ?_
    refine a_i2l dX11_readFormula_15 ?_
    refine a_lconst (v := 0) dX11_readFormula_16 (by decide) ?_
    refine a_ldc2 dX11_readFormula_17 co_X11_207 ?_
    obtain ⟨v9, M10, e11, h⟩ := bnd2_t h
    obtain ⟨n12, en13, e11⟩ := cal_t e11
    refine e_callS (As := [.long (Int32.toInt64 v4), .long 0, .long (12)]) (st := []) false dX11_readFormula_20 mw_X11_isIn (Or.inl ⟨rfl, ml_X11_180⟩) sm_X11_isIn rfl (Nat.le_of_ble_eq_true rfl) en13 (s_X11_isIn e11) ?_
    refine a_if_ne 38 dX11_readFormula_23 (by decide) (fun c14 => ?_) (fun c14 => ?_)
    · replace h := ite_f c14 h
      refine a_aload_n dX11_readFormula_38 rfl rfl ?_
      obtain ⟨⟨ga15, gs16⟩, h⟩ := gd_t h
      refine a_get (v := .int (M10.2.2.1 a0 34)) dX11_readFormula_39 fl_11_213 ga15 gs16 rfl ?_
      refine a_bipush (v := 30) dX11_readFormula_42 (by decide) ?_
      refine a_icmp_ne 56 dX11_readFormula_44 (by decide) (fun c17 => ?_) (fun c17 => ?_)
      · replace h := ite_f c17 h
        exact a_lv (lv2 := [(0, .ref a0), (1, .int v4)]) (fa_cons rfl (fa_cons rfl fa_nil)) (hJ _ _ _ h)
      · replace h := ite_t c17 h
        refine a_aload_n dX11_readFormula_47 rfl rfl ?_
        refine a_iconst (v := 4) dX11_readFormula_48 (by decide) ?_
        refine a_aload_n dX11_readFormula_49 rfl rfl ?_
        refine a_get (v := .int (M10.2.2.1 a0 29)) dX11_readFormula_50 fl_11_157 ga15 gs16 rfl ?_
        obtain ⟨_, M18, e19, h⟩ := bnd2_t h
        obtain ⟨n20, en21, e19⟩ := cal_t e19
        refine e_callV (As := [.int 4, .int (M10.2.2.1 a0 29)]) (st := []) (a := a0) (ci := 11) false dX11_readFormula_53 mw_X11_fails (Or.inl ⟨rfl, ml_X11_209⟩) im_X11_fails se_X11_fails (by decide) ga15 gs16 rfl (Nat.le_of_ble_eq_true rfl) en21 (s_X11_fails e19) ?_
        exact a_lv (lv2 := [(0, .ref a0), (1, .int v4)]) (fa_cons rfl (fa_cons rfl fa_nil)) (hJ _ _ _ h)
    · replace h := ite_t c14 h
      refine a_aload_n dX11_readFormula_26 rfl rfl ?_
      refine a_iconst (v := 1) dX11_readFormula_27 (by decide) ?_
      refine a_aload_n dX11_readFormula_28 rfl rfl ?_
      obtain ⟨⟨ga22, gs23⟩, h⟩ := gd_t h
      refine a_get (v := .int (M10.2.2.1 a0 29)) dX11_readFormula_29 fl_11_157 ga22 gs23 rfl ?_
      obtain ⟨_, M24, e25, h⟩ := bnd2_t h
      obtain ⟨n26, en27, e25⟩ := cal_t e25
      refine e_callV (As := [.int 1, .int (M10.2.2.1 a0 29)]) (st := []) (a := a0) (ci := 11) false dX11_readFormula_32 mw_X11_fails (Or.inl ⟨rfl, ml_X11_209⟩) im_X11_fails se_X11_fails (by decide) ga22 gs23 rfl (Nat.le_of_ble_eq_true rfl) en27 (s_X11_fails e25) ?_
      refine a_goto 56 dX11_readFormula_35 (by decide) ?_
      exact a_lv (lv2 := [(0, .ref a0), (1, .int v4)]) (fa_cons rfl (fa_cons rfl fa_nil)) (hJ _ _ _ h)
  · replace h := ite_f c3 h
    refine a_iconst (v := 0) dX11_readFormula_7 (by decide) ?_
    exact a_iret dX11_readFormula_8 rfl (hR _ _ h)
set_option maxHeartbeats 4000000 in
set_option maxRecDepth 100000 in
noncomputable def T_X11_readFormula_56.{u} {α : Sort u} (J : Nat → List Value → Mem → α) (R : Int32 → Mem → α) (N : α) (cl : Nat → List Value → Mem → Option (Int32 × Mem)) (n : Nat) (a0 : Nat) (x1 : Int32) (M : Mem) : α := gd (fO M a0 11) N (if (M.2.2.1 a0 30) = 0 then bnd2 (cal n (fun n => f_X11_lettersHere n a0 (wI M a0 34 ((M.2.2.1 a0 34) + 1)))) N (fun v4 M5 => gd (fO M5 a0 11) N (if 8 < x1 then bnd2 (cl 0 [.ref a0] (wI M5 a0 29 (((wI M a0 34 ((M.2.2.1 a0 34) + 1)).2.2.1 a0 29) + v4))) N (fun v12 M13 => if x1 = 12 then gd (fO M13 a0 11) N (bnd2 (cal n (fun n => f_X11_formula n a0 8 (-1) (-1) M13)) N (fun v27 M28 => J 128 [.ref a0, .int x1, .int v12, .int v27] M28)) else gd (fO M13 a0 11) N (bnd2 (cl 0 [.ref a0] M13) N (fun v20 M21 => J 128 [.ref a0, .int x1, .int v12, .int v20] M21))) else bnd2 (cal n (fun n => f_X11_formula n a0 x1 (-1) (-1) (wI M5 a0 29 (((wI M a0 34 ((M.2.2.1 a0 34) + 1)).2.2.1 a0 29) + v4)))) N (fun v32 M33 => R v32 M33))) else R 0 M)
set_option maxHeartbeats 4000000 in
set_option maxRecDepth 100000 in
theorem n_X11_readFormula_56.{u, v} {α : Sort u} {β : Sort v} (h : α → β) (J : Nat → List Value → Mem → α) (R : Int32 → Mem → α) (N : α) (cl : Nat → List Value → Mem → Option (Int32 × Mem)) (n : Nat) (a0 : Nat) (x1 : Int32) (M : Mem) : h (T_X11_readFormula_56 J R N cl n a0 x1 M) = T_X11_readFormula_56 (fun c l M => h (J c l M)) (fun v M => h (R v M)) (h N) cl n a0 x1 M := by
  simp only [T_X11_readFormula_56, nat_ite h, nat_gd h, nat_bnd h, nat_bnd2 h]
set_option maxHeartbeats 4000000 in
set_option maxRecDepth 100000 in
theorem w_X11_readFormula_56 {X : Nat × (Nat → Int32)} {al : Bool} {n : Nat} {Q : Option Value → Mem → Prop} {J : Nat → List Value → Mem → Prop} (hJ : ∀ c l M, J c l M → PW_X11_readFormula X al n Q c l M) {R : Int32 → Mem → Prop} (hR : ∀ v M, R v M → Q (some (.int v)) M) {cl : Nat → List Value → Mem → Option (Int32 × Mem)} (hc_X11_readFormula : ∀ {a0 : Nat} {M : Mem} {v : Int32} {M1 : Mem}, cl 0 [.ref a0] M = some (v, M1) → ∃ k, n = k + 1 ∧ AE yX11_readFormula cX11_readFormula 4 (some .int) al k X [.ref a0] M (some (.int v)) M1) {a0 : Nat} {x1 : Int32} {M : Mem} (h : T_X11_readFormula_56 J R False cl n a0 x1 M) : AW X (RX11, cX11_readFormula, 4, (some .int), false, al, n) 0 0 56 [(0, .ref a0), (1, .int x1)] [] M Q := by
  unfold T_X11_readFormula_56 at h
  refine a_aload_n dX11_readFormula_56 rfl rfl ?_
  obtain ⟨⟨ga1, gs2⟩, h⟩ := gd_t h
  refine a_get (v := .int (M.2.2.1 a0 30)) dX11_readFormula_57 fl_11_163 ga1 gs2 rfl ?_
  refine a_if_eq 65 dX11_readFormula_60 (by decide) (fun c3 => ?_) (fun c3 => ?_)
  · replace h := ite_t c3 h
    refine a_aload_n dX11_readFormula_65 rfl rfl ?_
    refine a_dup dX11_readFormula_66 rfl ?_
    refine a_get (v := .int (M.2.2.1 a0 34)) dX11_readFormula_67 fl_11_213 ga1 gs2 rfl ?_
    refine a_iconst (v := 1) dX11_readFormula_70 (by decide) ?_
    refine a_iadd dX11_readFormula_71 ?_
    refine a_putI dX11_readFormula_72 (Or.inl ⟨fl_11_213, Or.inl rfl⟩) rfl ga1 gs2 rfl rfl ?_
    refine a_aload_n dX11_readFormula_75 rfl rfl ?_
    refine a_dup dX11_readFormula_76 rfl ?_
    refine a_get (v := .int ((wI M a0 34 ((M.2.2.1 a0 34) + 1)).2.2.1 a0 29)) dX11_readFormula_77 fl_11_157 ga1 gs2 rfl ?_
    refine a_aload_n dX11_readFormula_80 rfl rfl ?_
    obtain ⟨v4, M5, e6, h⟩ := bnd2_t h
    obtain ⟨n7, en8, e6⟩ := cal_t e6
    refine e_callV (As := []) (st := [.int ((wI M a0 34 ((M.2.2.1 a0 34) + 1)).2.2.1 a0 29), .ref a0]) (a := a0) (ci := 11) false dX11_readFormula_81 mw_X11_lettersHere (Or.inl ⟨rfl, ml_X11_184⟩) im_X11_lettersHere se_X11_lettersHere (by decide) ga1 gs2 rfl (Nat.le_of_ble_eq_true rfl) en8 (s_X11_lettersHere e6) ?_
    refine a_iadd dX11_readFormula_84 ?_
    obtain ⟨⟨ga9, gs10⟩, h⟩ := gd_t h
    refine a_putI dX11_readFormula_85 (Or.inl ⟨fl_11_157, Or.inl rfl⟩) rfl ga9 gs10 rfl rfl ?_
    refine a_iload_n dX11_readFormula_88 rfl rfl ?_
    refine a_bipush (v := 8) dX11_readFormula_89 (by decide) ?_
    refine a_icmp_gt 102 dX11_readFormula_91 (by decide) (fun c11 => ?_) (fun c11 => ?_)
    · replace h := ite_t c11 h
      refine a_aload_n dX11_readFormula_102 rfl rfl ?_
      obtain ⟨v12, M13, e14, h⟩ := bnd2_t h
      obtain ⟨n15, en16, e14⟩ := hc_X11_readFormula e14
      refine e_callV (As := []) (st := []) (a := a0) (ci := 11) false dX11_readFormula_103 mw_X11_readFormula (Or.inl ⟨rfl, ml_X11_216⟩) im_X11_readFormula se_X11_readFormula (by decide) ga9 gs10 rfl (Nat.le_of_ble_eq_true rfl) en16 e14 ?_
      refine a_istore_n dX11_readFormula_106 rfl (Nat.le_of_ble_eq_true rfl) (lv2 := [(2, .int v12), (0, .ref a0), (1, .int x1)]) rfl ?_
      refine a_iload_n dX11_readFormula_107 rfl rfl ?_
      refine a_bipush (v := 12) dX11_readFormula_108 (by decide) ?_
      refine a_icmp_ne 124 dX11_readFormula_110 (by decide) (fun c17 => ?_) (fun c17 => ?_)
      · replace h := ite_f c17 h
        refine a_aload_n dX11_readFormula_124 rfl rfl ?_
        obtain ⟨⟨ga18, gs19⟩, h⟩ := gd_t h
        obtain ⟨v20, M21, e22, h⟩ := bnd2_t h
        obtain ⟨n23, en24, e22⟩ := hc_X11_readFormula e22
        refine e_callV (As := []) (st := []) (a := a0) (ci := 11) false dX11_readFormula_125 mw_X11_readFormula (Or.inl ⟨rfl, ml_X11_216⟩) im_X11_readFormula se_X11_readFormula (by decide) ga18 gs19 rfl (Nat.le_of_ble_eq_true rfl) en24 e22 ?_
        exact a_lv (lv2 := [(0, .ref a0), (1, .int x1), (2, .int v12)]) (fa_cons rfl (fa_cons rfl (fa_cons rfl fa_nil))) (hJ _ _ _ h)
      · replace h := ite_t c17 h
        refine a_aload_n dX11_readFormula_113 rfl rfl ?_
        refine a_bipush (v := 8) dX11_readFormula_114 (by decide) ?_
        refine a_iconst (v := -1) dX11_readFormula_116 (by decide) ?_
        refine a_iconst (v := -1) dX11_readFormula_117 (by decide) ?_
        obtain ⟨⟨ga25, gs26⟩, h⟩ := gd_t h
        obtain ⟨v27, M28, e29, h⟩ := bnd2_t h
        obtain ⟨n30, en31, e29⟩ := cal_t e29
        refine e_callV (As := [.int 8, .int (-1), .int (-1)]) (st := []) (a := a0) (ci := 11) false dX11_readFormula_118 mw_X11_formula (Or.inl ⟨rfl, ml_X11_130⟩) im_X11_formula se_X11_formula (by decide) ga25 gs26 rfl (Nat.le_of_ble_eq_true rfl) en31 (s_X11_formula e29) ?_
        refine a_goto 128 dX11_readFormula_121 (by decide) ?_
        exact a_lv (lv2 := [(0, .ref a0), (1, .int x1), (2, .int v12)]) (fa_cons rfl (fa_cons rfl (fa_cons rfl fa_nil))) (hJ _ _ _ h)
    · replace h := ite_f c11 h
      refine a_aload_n dX11_readFormula_94 rfl rfl ?_
      refine a_iload_n dX11_readFormula_95 rfl rfl ?_
      refine a_iconst (v := -1) dX11_readFormula_96 (by decide) ?_
      refine a_iconst (v := -1) dX11_readFormula_97 (by decide) ?_
      obtain ⟨v32, M33, e34, h⟩ := bnd2_t h
      obtain ⟨n35, en36, e34⟩ := cal_t e34
      refine e_callV (As := [.int x1, .int (-1), .int (-1)]) (st := []) (a := a0) (ci := 11) false dX11_readFormula_98 mw_X11_formula (Or.inl ⟨rfl, ml_X11_130⟩) im_X11_formula se_X11_formula (by decide) ga9 gs10 rfl (Nat.le_of_ble_eq_true rfl) en36 (s_X11_formula e34) ?_
      exact a_iret dX11_readFormula_101 rfl (hR _ _ h)
  · replace h := ite_f c3 h
    refine a_iconst (v := 0) dX11_readFormula_63 (by decide) ?_
    exact a_iret dX11_readFormula_64 rfl (hR _ _ h)
set_option maxHeartbeats 4000000 in
set_option maxRecDepth 100000 in
noncomputable def T_X11_readFormula_128.{u} {α : Sort u} (J : Nat → List Value → Mem → α) (R : Int32 → Mem → α) (N : α) (cl : Nat → List Value → Mem → Option (Int32 × Mem)) (n : Nat) (a0 : Nat) (x1 : Int32) (x2 : Int32) (xs0 : Int32) (M : Mem) : α := gd (fO M a0 11) N (if (M.2.2.1 a0 30) = 0 then if x1 = 12 then bnd2 (cal n (fun n => f_X11_formula n a0 9 x2 xs0 M)) N (fun v10 M11 => R v10 M11) else bnd2 (cal n (fun n => f_X11_formula n a0 x1 x2 xs0 M)) N (fun v5 M6 => R v5 M6) else R 0 M)
set_option maxHeartbeats 4000000 in
set_option maxRecDepth 100000 in
theorem n_X11_readFormula_128.{u, v} {α : Sort u} {β : Sort v} (h : α → β) (J : Nat → List Value → Mem → α) (R : Int32 → Mem → α) (N : α) (cl : Nat → List Value → Mem → Option (Int32 × Mem)) (n : Nat) (a0 : Nat) (x1 : Int32) (x2 : Int32) (xs0 : Int32) (M : Mem) : h (T_X11_readFormula_128 J R N cl n a0 x1 x2 xs0 M) = T_X11_readFormula_128 (fun c l M => h (J c l M)) (fun v M => h (R v M)) (h N) cl n a0 x1 x2 xs0 M := by
  simp only [T_X11_readFormula_128, nat_ite h, nat_gd h, nat_bnd h, nat_bnd2 h]
set_option maxHeartbeats 4000000 in
set_option maxRecDepth 100000 in
theorem w_X11_readFormula_128 {X : Nat × (Nat → Int32)} {al : Bool} {n : Nat} {Q : Option Value → Mem → Prop} {J : Nat → List Value → Mem → Prop} (hJ : ∀ c l M, J c l M → PW_X11_readFormula X al n Q c l M) {R : Int32 → Mem → Prop} (hR : ∀ v M, R v M → Q (some (.int v)) M) {cl : Nat → List Value → Mem → Option (Int32 × Mem)} (hc_X11_readFormula : ∀ {a0 : Nat} {M : Mem} {v : Int32} {M1 : Mem}, cl 0 [.ref a0] M = some (v, M1) → ∃ k, n = k + 1 ∧ AE yX11_readFormula cX11_readFormula 4 (some .int) al k X [.ref a0] M (some (.int v)) M1) {a0 : Nat} {x1 : Int32} {x2 : Int32} {xs0 : Int32} {M : Mem} (h : T_X11_readFormula_128 J R False cl n a0 x1 x2 xs0 M) : AW X (RX11, cX11_readFormula, 4, (some .int), false, al, n) 0 0 128 [(0, .ref a0), (1, .int x1), (2, .int x2)] [.int xs0] M Q := by
  unfold T_X11_readFormula_128 at h
  refine a_istore_n dX11_readFormula_128 rfl (Nat.le_of_ble_eq_true rfl) (lv2 := [(3, .int xs0), (0, .ref a0), (1, .int x1), (2, .int x2)]) rfl ?_
  refine a_aload_n dX11_readFormula_129 rfl rfl ?_
  obtain ⟨⟨ga1, gs2⟩, h⟩ := gd_t h
  refine a_get (v := .int (M.2.2.1 a0 30)) dX11_readFormula_130 fl_11_163 ga1 gs2 rfl ?_
  refine a_if_eq 140 dX11_readFormula_133 (by decide) (fun c3 => ?_) (fun c3 => ?_)
  · replace h := ite_t c3 h
    refine a_aload_n dX11_readFormula_140 rfl rfl ?_
    refine a_iload_n dX11_readFormula_141 rfl rfl ?_
    refine a_bipush (v := 12) dX11_readFormula_142 (by decide) ?_
    refine a_icmp_ne 152 dX11_readFormula_144 (by decide) (fun c4 => ?_) (fun c4 => ?_)
    · replace h := ite_f c4 h
      refine a_iload_n dX11_readFormula_152 rfl rfl ?_
      refine a_iload_n dX11_readFormula_153 rfl rfl ?_
      refine a_iload_n dX11_readFormula_154 rfl rfl ?_
      obtain ⟨v5, M6, e7, h⟩ := bnd2_t h
      obtain ⟨n8, en9, e7⟩ := cal_t e7
      refine e_callV (As := [.int x1, .int x2, .int xs0]) (st := []) (a := a0) (ci := 11) false dX11_readFormula_155 mw_X11_formula (Or.inl ⟨rfl, ml_X11_130⟩) im_X11_formula se_X11_formula (by decide) ga1 gs2 rfl (Nat.le_of_ble_eq_true rfl) en9 (s_X11_formula e7) ?_
      exact a_iret dX11_readFormula_158 rfl (hR _ _ h)
    · replace h := ite_t c4 h
      refine a_bipush (v := 9) dX11_readFormula_147 (by decide) ?_
      refine a_goto 153 dX11_readFormula_149 (by decide) ?_
      refine a_iload_n dX11_readFormula_153 rfl rfl ?_
      refine a_iload_n dX11_readFormula_154 rfl rfl ?_
      obtain ⟨v10, M11, e12, h⟩ := bnd2_t h
      obtain ⟨n13, en14, e12⟩ := cal_t e12
      refine e_callV (As := [.int 9, .int x2, .int xs0]) (st := []) (a := a0) (ci := 11) false dX11_readFormula_155 mw_X11_formula (Or.inl ⟨rfl, ml_X11_130⟩) im_X11_formula se_X11_formula (by decide) ga1 gs2 rfl (Nat.le_of_ble_eq_true rfl) en14 (s_X11_formula e12) ?_
      exact a_iret dX11_readFormula_158 rfl (hR _ _ h)
  · replace h := ite_f c3 h
    refine a_iconst (v := 0) dX11_readFormula_136 (by decide) ?_
    refine a_goto 158 dX11_readFormula_137 (by decide) ?_
    exact a_iret dX11_readFormula_158 rfl (hR _ _ h)
set_option maxHeartbeats 4000000 in
set_option maxRecDepth 100000 in
noncomputable def st_X11_readFormula (cl : Nat → List Value → Mem → Option (Int32 × Mem)) (n : Nat) (s : Sg) : Option (Sg ⊕ (Int32 × Mem)) := if s.1 = 0 then vR s.2.1 none (fun a0 t => vE t none (T_X11_readFormula_0 (fun c l M => some (.inl (c, l, M))) (fun v M => some (.inr (v, M))) none cl n a0 s.2.2)) else if s.1 = 56 then vR s.2.1 none (fun a0 t => vI t none (fun x1 t => vE t none (T_X11_readFormula_56 (fun c l M => some (.inl (c, l, M))) (fun v M => some (.inr (v, M))) none cl n a0 x1 s.2.2))) else if s.1 = 128 then vR s.2.1 none (fun a0 t => vI t none (fun x1 t => vI t none (fun x2 t => vI t none (fun xs0 t => vE t none (T_X11_readFormula_128 (fun c l M => some (.inl (c, l, M))) (fun v M => some (.inr (v, M))) none cl n a0 x1 x2 xs0 s.2.2))))) else none
noncomputable abbrev g_X11_readFormula_0 (cl : Nat → List Value → Mem → Option (Int32 × Mem)) (n : Nat) (a0 : Nat) (M : Mem) : Option (Int32 × Mem) := lp (st_X11_readFormula cl n) (0, [.ref a0], M)
set_option maxHeartbeats 4000000 in
set_option maxRecDepth 100000 in
theorem ge_X11_readFormula_0 (cl : Nat → List Value → Mem → Option (Int32 × Mem)) (n : Nat) (a0 : Nat) (M : Mem) : g_X11_readFormula_0 cl n a0 M = T_X11_readFormula_0 (fun c l M => lp (st_X11_readFormula cl n) (c, l, M)) (fun v M => some (v, M)) none cl n a0 M := (lp_eq _ _).trans (n_X11_readFormula_0 (lpK (st_X11_readFormula cl n)) (fun c l M => some (.inl (c, l, M))) (fun v M => some (.inr (v, M))) none cl n a0 M)
noncomputable abbrev g_X11_readFormula_56 (cl : Nat → List Value → Mem → Option (Int32 × Mem)) (n : Nat) (a0 : Nat) (x1 : Int32) (M : Mem) : Option (Int32 × Mem) := lp (st_X11_readFormula cl n) (56, [.ref a0, .int x1], M)
set_option maxHeartbeats 4000000 in
set_option maxRecDepth 100000 in
theorem ge_X11_readFormula_56 (cl : Nat → List Value → Mem → Option (Int32 × Mem)) (n : Nat) (a0 : Nat) (x1 : Int32) (M : Mem) : g_X11_readFormula_56 cl n a0 x1 M = T_X11_readFormula_56 (fun c l M => lp (st_X11_readFormula cl n) (c, l, M)) (fun v M => some (v, M)) none cl n a0 x1 M := (lp_eq _ _).trans (n_X11_readFormula_56 (lpK (st_X11_readFormula cl n)) (fun c l M => some (.inl (c, l, M))) (fun v M => some (.inr (v, M))) none cl n a0 x1 M)
noncomputable abbrev g_X11_readFormula_128 (cl : Nat → List Value → Mem → Option (Int32 × Mem)) (n : Nat) (a0 : Nat) (x1 : Int32) (x2 : Int32) (xs0 : Int32) (M : Mem) : Option (Int32 × Mem) := lp (st_X11_readFormula cl n) (128, [.ref a0, .int x1, .int x2, .int xs0], M)
set_option maxHeartbeats 4000000 in
set_option maxRecDepth 100000 in
theorem ge_X11_readFormula_128 (cl : Nat → List Value → Mem → Option (Int32 × Mem)) (n : Nat) (a0 : Nat) (x1 : Int32) (x2 : Int32) (xs0 : Int32) (M : Mem) : g_X11_readFormula_128 cl n a0 x1 x2 xs0 M = T_X11_readFormula_128 (fun c l M => lp (st_X11_readFormula cl n) (c, l, M)) (fun v M => some (v, M)) none cl n a0 x1 x2 xs0 M := (lp_eq _ _).trans (n_X11_readFormula_128 (lpK (st_X11_readFormula cl n)) (fun c l M => some (.inl (c, l, M))) (fun v M => some (.inr (v, M))) none cl n a0 x1 x2 xs0 M)
noncomputable def b_X11_readFormula (cl : Nat → List Value → Mem → Option (Int32 × Mem)) (n : Nat) (a0 : Nat) (M : Mem) : Option (Int32 × Mem) := g_X11_readFormula_0 cl n a0 M
set_option maxHeartbeats 4000000 in
set_option maxRecDepth 100000 in
theorem sb_X11_readFormula {X : Nat × (Nat → Int32)} {al : Bool} {n : Nat} {cl : Nat → List Value → Mem → Option (Int32 × Mem)} (hc_X11_readFormula : ∀ {a0 : Nat} {M : Mem} {v : Int32} {M1 : Mem}, cl 0 [.ref a0] M = some (v, M1) → ∃ k, n = k + 1 ∧ AE yX11_readFormula cX11_readFormula 4 (some .int) al k X [.ref a0] M (some (.int v)) M1) {a0 : Nat} {M : Mem} {v : Int32} {M1 : Mem} (h : b_X11_readFormula cl n a0 M = some (v, M1)) : AE yX11_readFormula cX11_readFormula 4 (some .int) al n X [.ref a0] M (some (.int v)) M1 := by
  refine AM.of false (by decide +kernel) (by intro h; cases h) (Nat.le_of_ble_eq_true rfl) ?_
  refine lp_snd (P := fun s r => PW_X11_readFormula X al n (fun v M2 => v = (some (.int r.1)) ∧ M2 = r.2) s.1 s.2.1 s.2.2) ?_ h
  clear h
  rintro ⟨c, l, M⟩ r h
  unfold st_X11_readFormula at h
  rcases ite_p h with ⟨e, h⟩ | ⟨e, h⟩
  · replace e : c = 0 := e
    subst e
    obtain ⟨a0, tt0, e, h⟩ := vR_p id h
    replace e : l = _ := e
    subst e
    obtain ⟨e, h⟩ := vE_p id h
    replace e : tt0 = [] := e
    subst e
    exact w_X11_readFormula_0 (J := fun c l M => PW_X11_readFormula X al n (fun v M2 => v = (some (.int r.1)) ∧ M2 = r.2) c l M) (R := fun v M => (v, M) = r) (fun _ _ _ h => h) (fun v M h => by cases h; exact ⟨rfl, rfl⟩) hc_X11_readFormula ((n_X11_readFormula_0 (lpP (fun (s : Sg) (r : Int32 × Mem) => PW_X11_readFormula X al n (fun v M2 => v = (some (.int r.1)) ∧ M2 = r.2) s.1 s.2.1 s.2.2) r) (fun c l M => some (.inl (c, l, M))) (fun v M => some (.inr (v, M))) none cl n a0 M).mp h)
  rcases ite_p h with ⟨e, h⟩ | ⟨e, h⟩
  · replace e : c = 56 := e
    subst e
    obtain ⟨a0, tt0, e, h⟩ := vR_p id h
    replace e : l = _ := e
    subst e
    obtain ⟨x1, tt1, e, h⟩ := vI_p id h
    replace e : tt0 = _ := e
    subst e
    obtain ⟨e, h⟩ := vE_p id h
    replace e : tt1 = [] := e
    subst e
    exact w_X11_readFormula_56 (J := fun c l M => PW_X11_readFormula X al n (fun v M2 => v = (some (.int r.1)) ∧ M2 = r.2) c l M) (R := fun v M => (v, M) = r) (fun _ _ _ h => h) (fun v M h => by cases h; exact ⟨rfl, rfl⟩) hc_X11_readFormula ((n_X11_readFormula_56 (lpP (fun (s : Sg) (r : Int32 × Mem) => PW_X11_readFormula X al n (fun v M2 => v = (some (.int r.1)) ∧ M2 = r.2) s.1 s.2.1 s.2.2) r) (fun c l M => some (.inl (c, l, M))) (fun v M => some (.inr (v, M))) none cl n a0 x1 M).mp h)
  rcases ite_p h with ⟨e, h⟩ | ⟨e, h⟩
  · replace e : c = 128 := e
    subst e
    obtain ⟨a0, tt0, e, h⟩ := vR_p id h
    replace e : l = _ := e
    subst e
    obtain ⟨x1, tt1, e, h⟩ := vI_p id h
    replace e : tt0 = _ := e
    subst e
    obtain ⟨x2, tt2, e, h⟩ := vI_p id h
    replace e : tt1 = _ := e
    subst e
    obtain ⟨xs0, tt3, e, h⟩ := vI_p id h
    replace e : tt2 = _ := e
    subst e
    obtain ⟨e, h⟩ := vE_p id h
    replace e : tt3 = [] := e
    subst e
    exact w_X11_readFormula_128 (J := fun c l M => PW_X11_readFormula X al n (fun v M2 => v = (some (.int r.1)) ∧ M2 = r.2) c l M) (R := fun v M => (v, M) = r) (fun _ _ _ h => h) (fun v M h => by cases h; exact ⟨rfl, rfl⟩) hc_X11_readFormula ((n_X11_readFormula_128 (lpP (fun (s : Sg) (r : Int32 × Mem) => PW_X11_readFormula X al n (fun v M2 => v = (some (.int r.1)) ∧ M2 = r.2) s.1 s.2.1 s.2.2) r) (fun c l M => some (.inl (c, l, M))) (fun v M => some (.inr (v, M))) none cl n a0 x1 x2 xs0 M).mp h)
  · exact h.elim

noncomputable def F_X11_readFormula (cl : Nat → List Value → Mem → Option (Int32 × Mem)) (n k : Nat) (l : List Value) (M : Mem) : Option (Int32 × Mem) := if k = 0 then vR l none (fun a0 t => vE t none (b_X11_readFormula cl n a0 M)) else none
noncomputable def r_X11_readFormula : Nat → Nat → List Value → Mem → Option (Int32 × Mem)
  | 0 => F_X11_readFormula (fun _ _ _ => none) 0
  | n + 1 => F_X11_readFormula (r_X11_readFormula n) (n + 1)
noncomputable abbrev f_X11_readFormula (n : Nat) (a0 : Nat) (M : Mem) : Option (Int32 × Mem) := r_X11_readFormula n 0 [.ref a0] M
set_option maxHeartbeats 4000000 in
set_option maxRecDepth 100000 in
theorem sr_X11_readFormula {X : Nat × (Nat → Int32)} {al : Bool} : ∀ n : Nat, (∀ {a0 : Nat} {M : Mem} {v : Int32} {M1 : Mem}, f_X11_readFormula n a0 M = some (v, M1) → AE yX11_readFormula cX11_readFormula 4 (some .int) al n X [.ref a0] M (some (.int v)) M1) := by
  intro n
  induction n with
  | zero => exact (fun h => sb_X11_readFormula (cl := fun _ _ _ => none) (fun h => by cases h) h)
  | succ n ih => exact (fun h => sb_X11_readFormula (cl := r_X11_readFormula n) (fun h => ⟨n, rfl, ih h⟩) h)
theorem s_X11_readFormula {X : Nat × (Nat → Int32)} {al : Bool} {n : Nat} {a0 : Nat} {M : Mem} {v : Int32} {M1 : Mem} (h : f_X11_readFormula n a0 M = some (v, M1)) : AE yX11_readFormula cX11_readFormula 4 (some .int) al n X [.ref a0] M (some (.int v)) M1 := (sr_X11_readFormula n) h
set_option maxHeartbeats 4000000 in
set_option maxRecDepth 100000 in
noncomputable def T_X11_formulaRead_0.{u} {α : Sort u} (R : Int32 → Mem → α) (N : α) (n : Nat) (a0 : Nat) (M : Mem) : α := gd (fO M a0 11) N (bnd2 (cal n (fun n => f_X11_readFormula n a0 (wI M a0 34 0))) N (fun v3 M4 => R v3 M4))
set_option maxHeartbeats 4000000 in
set_option maxRecDepth 100000 in
theorem n_X11_formulaRead_0.{u, v} {α : Sort u} {β : Sort v} (h : α → β) (R : Int32 → Mem → α) (N : α) (n : Nat) (a0 : Nat) (M : Mem) : h (T_X11_formulaRead_0 R N n a0 M) = T_X11_formulaRead_0 (fun v M => h (R v M)) (h N) n a0 M := by
  simp only [T_X11_formulaRead_0, nat_ite h, nat_gd h, nat_bnd h, nat_bnd2 h]
set_option maxHeartbeats 4000000 in
set_option maxRecDepth 100000 in
theorem w_X11_formulaRead_0 {X : Nat × (Nat → Int32)} {al : Bool} {n : Nat} {Q : Option Value → Mem → Prop} {R : Int32 → Mem → Prop} (hR : ∀ v M, R v M → Q (some (.int v)) M) {a0 : Nat} {M : Mem} (h : T_X11_formulaRead_0 R False n a0 M) : AW X (RX11, cX11_formulaRead, 1, (some .int), false, al, n) 0 0 0 [(0, .ref a0)] [] M Q := by
  unfold T_X11_formulaRead_0 at h
  refine a_aload_n dX11_formulaRead_0 rfl rfl ?_
  refine a_iconst (v := 0) dX11_formulaRead_1 (by decide) ?_
  obtain ⟨⟨ga1, gs2⟩, h⟩ := gd_t h
  refine a_putI dX11_formulaRead_2 (Or.inl ⟨fl_11_213, Or.inl rfl⟩) rfl ga1 gs2 rfl rfl ?_
  refine a_aload_n dX11_formulaRead_5 rfl rfl ?_
  obtain ⟨v3, M4, e5, h⟩ := bnd2_t h
  obtain ⟨n6, en7, e5⟩ := cal_t e5
  refine e_callV (As := []) (st := []) (a := a0) (ci := 11) false dX11_formulaRead_6 mw_X11_readFormula (Or.inl ⟨rfl, ml_X11_216⟩) im_X11_readFormula se_X11_readFormula (by decide) ga1 gs2 rfl (Nat.le_of_ble_eq_true rfl) en7 (s_X11_readFormula e5) ?_
  exact a_iret dX11_formulaRead_9 rfl (hR _ _ h)
noncomputable def b_X11_formulaRead (n : Nat) (a0 : Nat) (M : Mem) : Option (Int32 × Mem) := T_X11_formulaRead_0 (fun v M => some (v, M)) none n a0 M
set_option maxHeartbeats 4000000 in
set_option maxRecDepth 100000 in
theorem sb_X11_formulaRead {X : Nat × (Nat → Int32)} {al : Bool} {n : Nat} {a0 : Nat} {M : Mem} {v : Int32} {M1 : Mem} (h : b_X11_formulaRead n a0 M = some (v, M1)) : AE yX11_formulaRead cX11_formulaRead 1 (some .int) al n X [.ref a0] M (some (.int v)) M1 := by
  refine AM.of false (by decide +kernel) (by intro h; cases h) (Nat.le_of_ble_eq_true rfl) ?_
  have h2 : T_X11_formulaRead_0 (fun v2 M2 => some (v2, M2) = some (v, M1)) (none = some (v, M1)) n a0 M := (n_X11_formulaRead_0 (fun o => o = some (v, M1)) (fun v M => some (v, M)) none n a0 M).mp h
  have h3 : ((none : Option (Int32 × Mem)) = some (v, M1)) = False := eq_false (by intro q; cases q)
  rw [h3] at h2
  exact w_X11_formulaRead_0 (fun v2 M2 h => by cases h; exact ⟨rfl, rfl⟩) h2

noncomputable abbrev f_X11_formulaRead := b_X11_formulaRead
theorem s_X11_formulaRead {X : Nat × (Nat → Int32)} {al : Bool} {n : Nat} {a0 : Nat} {M : Mem} {v : Int32} {M1 : Mem} (h : f_X11_formulaRead n a0 M = some (v, M1)) : AE yX11_formulaRead cX11_formulaRead 1 (some .int) al n X [.ref a0] M (some (.int v)) M1 := sb_X11_formulaRead h
def ix_X11_readHypothesis (c : Nat) : List Nat := if c = 0 then [0] else if c = 20 then [0, 1, 2] else if c = 45 then [0, 1, 2, 3, 4] else if c = 105 then [0, 1, 2] else if c = 131 then [0, 1, 2, 4] else if c = 238 then [0] else []
def PW_X11_readHypothesis (X : Nat × (Nat → Int32)) (al : Bool) (n : Nat) (Q : Option Value → Mem → Prop) (c : Nat) (l : List Value) (M : Mem) : Prop := AW X (RX11, cX11_readHypothesis, 5, none, false, al, n) 0 0 c (List.zip (ix_X11_readHypothesis c) l) (l.drop (ix_X11_readHypothesis c).length) M Q
set_option maxHeartbeats 4000000 in
set_option maxRecDepth 100000 in
noncomputable def T_X11_readHypothesis_0.{u} {α : Sort u} (J : Nat → List Value → Mem → α) (R : Unit → Mem → α) (N : α) (n : Nat) (a0 : Nat) (M : Mem) : α := gd (fO M a0 11) N (bnd2 (cal n (fun n => f_X11_nameHere n a0 M)) N (fun v3 M4 => gd (fO M4 a0 11) N (if v3 = 0 then bnd2 (cal n (fun n => f_X11_fails n a0 1 (M4.2.2.1 a0 29) M4)) N (fun _ M11 => J 20 [.ref a0, .int v3, .int (M4.2.2.1 a0 29)] M11) else J 20 [.ref a0, .int v3, .int (M4.2.2.1 a0 29)] M4)))
set_option maxHeartbeats 4000000 in
set_option maxRecDepth 100000 in
theorem n_X11_readHypothesis_0.{u, v} {α : Sort u} {β : Sort v} (h : α → β) (J : Nat → List Value → Mem → α) (R : Unit → Mem → α) (N : α) (n : Nat) (a0 : Nat) (M : Mem) : h (T_X11_readHypothesis_0 J R N n a0 M) = T_X11_readHypothesis_0 (fun c l M => h (J c l M)) (fun v M => h (R v M)) (h N) n a0 M := by
  simp only [T_X11_readHypothesis_0, nat_ite h, nat_gd h, nat_bnd h, nat_bnd2 h]
set_option maxHeartbeats 4000000 in
set_option maxRecDepth 100000 in
theorem w_X11_readHypothesis_0 {X : Nat × (Nat → Int32)} {al : Bool} {n : Nat} {Q : Option Value → Mem → Prop} {J : Nat → List Value → Mem → Prop} (hJ : ∀ c l M, J c l M → PW_X11_readHypothesis X al n Q c l M) {R : Unit → Mem → Prop} (hR : ∀ v M, R v M → Q none M) {a0 : Nat} {M : Mem} (h : T_X11_readHypothesis_0 J R False n a0 M) : AW X (RX11, cX11_readHypothesis, 5, none, false, al, n) 0 0 0 [(0, .ref a0)] [] M Q := by
  unfold T_X11_readHypothesis_0 at h
  refine a_aload_n dX11_readHypothesis_0 rfl rfl ?_
  obtain ⟨⟨ga1, gs2⟩, h⟩ := gd_t h
  obtain ⟨v3, M4, e5, h⟩ := bnd2_t h
  obtain ⟨n6, en7, e5⟩ := cal_t e5
  refine e_callV (As := []) (st := []) (a := a0) (ci := 11) false dX11_readHypothesis_1 mw_X11_nameHere (Or.inl ⟨rfl, ml_X11_221⟩) im_X11_nameHere se_X11_nameHere (by decide) ga1 gs2 rfl (Nat.le_of_ble_eq_true rfl) en7 (s_X11_nameHere e5) ?_
  refine a_istore_n dX11_readHypothesis_4 rfl (Nat.le_of_ble_eq_true rfl) (lv2 := [(1, .int v3), (0, .ref a0)]) rfl ?_
  refine a_aload_n dX11_readHypothesis_5 rfl rfl ?_
  obtain ⟨⟨ga8, gs9⟩, h⟩ := gd_t h
  refine a_get (v := .int (M4.2.2.1 a0 29)) dX11_readHypothesis_6 fl_11_157 ga8 gs9 rfl ?_
  refine a_istore_n dX11_readHypothesis_9 rfl (Nat.le_of_ble_eq_true rfl) (lv2 := [(2, .int (M4.2.2.1 a0 29)), (1, .int v3), (0, .ref a0)]) rfl ?_
  refine a_iload_n dX11_readHypothesis_10 rfl rfl ?_
  refine a_if_ne 20 dX11_readHypothesis_11 (by decide) (fun c10 => ?_) (fun c10 => ?_)
  · replace h := ite_f c10 h
    exact a_lv (lv2 := [(0, .ref a0), (1, .int v3), (2, .int (M4.2.2.1 a0 29))]) (fa_cons rfl (fa_cons rfl (fa_cons rfl fa_nil))) (hJ _ _ _ h)
  · replace h := ite_t c10 h
    refine a_aload_n dX11_readHypothesis_14 rfl rfl ?_
    refine a_iconst (v := 1) dX11_readHypothesis_15 (by decide) ?_
    refine a_iload_n dX11_readHypothesis_16 rfl rfl ?_
    obtain ⟨_, M11, e12, h⟩ := bnd2_t h
    obtain ⟨n13, en14, e12⟩ := cal_t e12
    refine e_callV (As := [.int 1, .int (M4.2.2.1 a0 29)]) (st := []) (a := a0) (ci := 11) false dX11_readHypothesis_17 mw_X11_fails (Or.inl ⟨rfl, ml_X11_209⟩) im_X11_fails se_X11_fails (by decide) ga8 gs9 rfl (Nat.le_of_ble_eq_true rfl) en14 (s_X11_fails e12) ?_
    exact a_lv (lv2 := [(0, .ref a0), (1, .int v3), (2, .int (M4.2.2.1 a0 29))]) (fa_cons rfl (fa_cons rfl (fa_cons rfl fa_nil))) (hJ _ _ _ h)
set_option maxHeartbeats 4000000 in
set_option maxRecDepth 100000 in
noncomputable def T_X11_readHypothesis_20.{u} {α : Sort u} (J : Nat → List Value → Mem → α) (R : Unit → Mem → α) (N : α) (n : Nat) (a0 : Nat) (x1 : Int32) (x2 : Int32) (M : Mem) : α := gd (fO M a0 11) N (bnd (M.2.2.2.2 a0 26) N (fun r3 => gd (fA M r3 0 x2) N (if (M.2.2.1 r3 (x2.toNatClampNeg)) = 120 then if x1 ≤ 1 then J 45 [.ref a0, .int x1, .int x2, .int 0, .int 0] M else J 45 [.ref a0, .int x1, .int x2, .int 1, .int 0] M else J 45 [.ref a0, .int x1, .int x2, .int 0, .int 0] M)))
set_option maxHeartbeats 4000000 in
set_option maxRecDepth 100000 in
theorem n_X11_readHypothesis_20.{u, v} {α : Sort u} {β : Sort v} (h : α → β) (J : Nat → List Value → Mem → α) (R : Unit → Mem → α) (N : α) (n : Nat) (a0 : Nat) (x1 : Int32) (x2 : Int32) (M : Mem) : h (T_X11_readHypothesis_20 J R N n a0 x1 x2 M) = T_X11_readHypothesis_20 (fun c l M => h (J c l M)) (fun v M => h (R v M)) (h N) n a0 x1 x2 M := by
  simp only [T_X11_readHypothesis_20, nat_ite h, nat_gd h, nat_bnd h, nat_bnd2 h]
set_option maxHeartbeats 4000000 in
set_option maxRecDepth 100000 in
theorem w_X11_readHypothesis_20 {X : Nat × (Nat → Int32)} {al : Bool} {n : Nat} {Q : Option Value → Mem → Prop} {J : Nat → List Value → Mem → Prop} (hJ : ∀ c l M, J c l M → PW_X11_readHypothesis X al n Q c l M) {R : Unit → Mem → Prop} (hR : ∀ v M, R v M → Q none M) {a0 : Nat} {x1 : Int32} {x2 : Int32} {M : Mem} (h : T_X11_readHypothesis_20 J R False n a0 x1 x2 M) : AW X (RX11, cX11_readHypothesis, 5, none, false, al, n) 0 0 20 [(0, .ref a0), (1, .int x1), (2, .int x2)] [] M Q := by
  unfold T_X11_readHypothesis_20 at h
  refine a_aload_n dX11_readHypothesis_20 rfl rfl ?_
  obtain ⟨⟨ga1, gs2⟩, h⟩ := gd_t h
  obtain ⟨r3, e4, h⟩ := bnd_t h
  refine a_get (v := .ref r3) dX11_readHypothesis_21 fl_11_71 ga1 gs2 (gvR e4 rfl) ?_
  refine a_iload_n dX11_readHypothesis_24 rfl rfl ?_
  obtain ⟨⟨ga5, gn6, gs7, gi8⟩, h⟩ := gd_t h
  refine a_baload dX11_readHypothesis_25 (by decide) ga5 gs7 gi8 ?_
  refine a_bipush (v := 120) dX11_readHypothesis_26 (by decide) ?_
  refine a_icmp_ne 40 dX11_readHypothesis_28 (by decide) (fun c9 => ?_) (fun c9 => ?_)
  · replace h := ite_f c9 h
    refine a_iconst (v := 0) dX11_readHypothesis_40 (by decide) ?_
    refine a_istore_n dX11_readHypothesis_41 rfl (Nat.le_of_ble_eq_true rfl) (lv2 := [(3, .int 0), (0, .ref a0), (1, .int x1), (2, .int x2)]) rfl ?_
    refine a_iconst (v := 0) dX11_readHypothesis_42 (by decide) ?_
    refine a_istore dX11_readHypothesis_43 (Nat.le_of_ble_eq_true rfl) (lv2 := [(4, .int 0), (3, .int 0), (0, .ref a0), (1, .int x1), (2, .int x2)]) rfl ?_
    exact a_lv (lv2 := [(0, .ref a0), (1, .int x1), (2, .int x2), (3, .int 0), (4, .int 0)]) (fa_cons rfl (fa_cons rfl (fa_cons rfl (fa_cons rfl (fa_cons rfl fa_nil))))) (hJ _ _ _ h)
  · replace h := ite_t c9 h
    refine a_iload_n dX11_readHypothesis_31 rfl rfl ?_
    refine a_iconst (v := 1) dX11_readHypothesis_32 (by decide) ?_
    refine a_icmp_le 40 dX11_readHypothesis_33 (by decide) (fun c10 => ?_) (fun c10 => ?_)
    · replace h := ite_t c10 h
      refine a_iconst (v := 0) dX11_readHypothesis_40 (by decide) ?_
      refine a_istore_n dX11_readHypothesis_41 rfl (Nat.le_of_ble_eq_true rfl) (lv2 := [(3, .int 0), (0, .ref a0), (1, .int x1), (2, .int x2)]) rfl ?_
      refine a_iconst (v := 0) dX11_readHypothesis_42 (by decide) ?_
      refine a_istore dX11_readHypothesis_43 (Nat.le_of_ble_eq_true rfl) (lv2 := [(4, .int 0), (3, .int 0), (0, .ref a0), (1, .int x1), (2, .int x2)]) rfl ?_
      exact a_lv (lv2 := [(0, .ref a0), (1, .int x1), (2, .int x2), (3, .int 0), (4, .int 0)]) (fa_cons rfl (fa_cons rfl (fa_cons rfl (fa_cons rfl (fa_cons rfl fa_nil))))) (hJ _ _ _ h)
    · replace h := ite_f c10 h
      refine a_iconst (v := 1) dX11_readHypothesis_36 (by decide) ?_
      refine a_goto 41 dX11_readHypothesis_37 (by decide) ?_
      refine a_istore_n dX11_readHypothesis_41 rfl (Nat.le_of_ble_eq_true rfl) (lv2 := [(3, .int 1), (0, .ref a0), (1, .int x1), (2, .int x2)]) rfl ?_
      refine a_iconst (v := 0) dX11_readHypothesis_42 (by decide) ?_
      refine a_istore dX11_readHypothesis_43 (Nat.le_of_ble_eq_true rfl) (lv2 := [(4, .int 0), (3, .int 1), (0, .ref a0), (1, .int x1), (2, .int x2)]) rfl ?_
      exact a_lv (lv2 := [(0, .ref a0), (1, .int x1), (2, .int x2), (3, .int 1), (4, .int 0)]) (fa_cons rfl (fa_cons rfl (fa_cons rfl (fa_cons rfl (fa_cons rfl fa_nil))))) (hJ _ _ _ h)
set_option maxHeartbeats 4000000 in
set_option maxRecDepth 100000 in
noncomputable def T_X11_readHypothesis_45.{u} {α : Sort u} (J : Nat → List Value → Mem → α) (R : Unit → Mem → α) (N : α) (n : Nat) (a0 : Nat) (x1 : Int32) (x2 : Int32) (x3 : Int32) (x4 : Int32) (M : Mem) : α := gd (fO M a0 11) N (if (M.2.2.1 a0 35) ≤ x4 then if (M.2.2.1 a0 30) = 0 then if x3 = 0 then J 105 [.ref a0, .int x1, .int x2] M else bnd2 (cal n (fun n => f_X11_fails n a0 2 x2 M)) N (fun _ M6 => J 105 [.ref a0, .int x1, .int x2] M6) else J 105 [.ref a0, .int x1, .int x2] M else if x3 = 0 then bnd (M.2.2.2.2 a0 12) N (fun r11 => bnd (M.2.2.2.2 a0 13) N (fun r13 => bnd2 (cal n (fun n => f_X11_isNamed n a0 r11 r13 x4 x1 M)) N (fun v15 M16 => if v15 = 0 then J 45 [.ref a0, .int x1, .int x2, .int 0, .int (x4 + 1)] M16 else J 45 [.ref a0, .int x1, .int x2, .int 1, .int (x4 + 1)] M16))) else J 45 [.ref a0, .int x1, .int x2, .int 1, .int (x4 + 1)] M)
set_option maxHeartbeats 4000000 in
set_option maxRecDepth 100000 in
theorem n_X11_readHypothesis_45.{u, v} {α : Sort u} {β : Sort v} (h : α → β) (J : Nat → List Value → Mem → α) (R : Unit → Mem → α) (N : α) (n : Nat) (a0 : Nat) (x1 : Int32) (x2 : Int32) (x3 : Int32) (x4 : Int32) (M : Mem) : h (T_X11_readHypothesis_45 J R N n a0 x1 x2 x3 x4 M) = T_X11_readHypothesis_45 (fun c l M => h (J c l M)) (fun v M => h (R v M)) (h N) n a0 x1 x2 x3 x4 M := by
  simp only [T_X11_readHypothesis_45, nat_ite h, nat_gd h, nat_bnd h, nat_bnd2 h]
set_option maxHeartbeats 4000000 in
set_option maxRecDepth 100000 in
theorem w_X11_readHypothesis_45 {X : Nat × (Nat → Int32)} {al : Bool} {n : Nat} {Q : Option Value → Mem → Prop} {J : Nat → List Value → Mem → Prop} (hJ : ∀ c l M, J c l M → PW_X11_readHypothesis X al n Q c l M) {R : Unit → Mem → Prop} (hR : ∀ v M, R v M → Q none M) {a0 : Nat} {x1 : Int32} {x2 : Int32} {x3 : Int32} {x4 : Int32} {M : Mem} (h : T_X11_readHypothesis_45 J R False n a0 x1 x2 x3 x4 M) : AW X (RX11, cX11_readHypothesis, 5, none, false, al, n) 0 0 45 [(0, .ref a0), (1, .int x1), (2, .int x2), (3, .int x3), (4, .int x4)] [] M Q := by
  unfold T_X11_readHypothesis_45 at h
  refine a_iload dX11_readHypothesis_45 rfl ?_
  refine a_aload_n dX11_readHypothesis_47 rfl rfl ?_
  obtain ⟨⟨ga1, gs2⟩, h⟩ := gd_t h
  refine a_get (v := .int (M.2.2.1 a0 35)) dX11_readHypothesis_48 fl_11_224 ga1 gs2 rfl ?_
  refine a_icmp_ge 88 dX11_readHypothesis_51 (by decide) (fun c3 => ?_) (fun c3 => ?_)
  · replace h := ite_t c3 h
    refine a_aload_n dX11_readHypothesis_88 rfl rfl ?_
    refine a_get (v := .int (M.2.2.1 a0 30)) dX11_readHypothesis_89 fl_11_163 ga1 gs2 rfl ?_
    refine a_if_ne 105 dX11_readHypothesis_92 (by decide) (fun c4 => ?_) (fun c4 => ?_)
    · replace h := ite_f c4 h
      exact a_lv (lv2 := [(0, .ref a0), (1, .int x1), (2, .int x2)]) (fa_cons rfl (fa_cons rfl (fa_cons rfl fa_nil))) (hJ _ _ _ h)
    · replace h := ite_t c4 h
      refine a_iload_n dX11_readHypothesis_95 rfl rfl ?_
      refine a_if_eq 105 dX11_readHypothesis_96 (by decide) (fun c5 => ?_) (fun c5 => ?_)
      · replace h := ite_t c5 h
        exact a_lv (lv2 := [(0, .ref a0), (1, .int x1), (2, .int x2)]) (fa_cons rfl (fa_cons rfl (fa_cons rfl fa_nil))) (hJ _ _ _ h)
      · replace h := ite_f c5 h
        refine a_aload_n dX11_readHypothesis_99 rfl rfl ?_
        refine a_iconst (v := 2) dX11_readHypothesis_100 (by decide) ?_
        refine a_iload_n dX11_readHypothesis_101 rfl rfl ?_
        obtain ⟨_, M6, e7, h⟩ := bnd2_t h
        obtain ⟨n8, en9, e7⟩ := cal_t e7
        refine e_callV (As := [.int 2, .int x2]) (st := []) (a := a0) (ci := 11) false dX11_readHypothesis_102 mw_X11_fails (Or.inl ⟨rfl, ml_X11_209⟩) im_X11_fails se_X11_fails (by decide) ga1 gs2 rfl (Nat.le_of_ble_eq_true rfl) en9 (s_X11_fails e7) ?_
        exact a_lv (lv2 := [(0, .ref a0), (1, .int x1), (2, .int x2)]) (fa_cons rfl (fa_cons rfl (fa_cons rfl fa_nil))) (hJ _ _ _ h)
  · replace h := ite_f c3 h
    refine a_iload_n dX11_readHypothesis_54 rfl rfl ?_
    refine a_if_ne 76 dX11_readHypothesis_55 (by decide) (fun c10 => ?_) (fun c10 => ?_)
    · replace h := ite_f c10 h
      refine a_iconst (v := 1) dX11_readHypothesis_76 (by decide) ?_
      refine a_goto 81 dX11_readHypothesis_77 (by decide) ?_
      refine a_istore_n dX11_readHypothesis_81 rfl (Nat.le_of_ble_eq_true rfl) (lv2 := [(3, .int 1), (0, .ref a0), (1, .int x1), (2, .int x2), (4, .int x4)]) rfl ?_
      refine a_iinc (v := (x4 + 1)) dX11_readHypothesis_82 rfl (by first | rfl | decide) (Nat.le_of_ble_eq_true rfl) (lv2 := [(4, .int (x4 + 1)), (3, .int 1), (0, .ref a0), (1, .int x1), (2, .int x2)]) rfl ?_
      refine a_goto 45 dX11_readHypothesis_85 (by decide) ?_
      exact a_lv (lv2 := [(0, .ref a0), (1, .int x1), (2, .int x2), (3, .int 1), (4, .int (x4 + 1))]) (fa_cons rfl (fa_cons rfl (fa_cons rfl (fa_cons rfl (fa_cons rfl fa_nil))))) (hJ _ _ _ h)
    · replace h := ite_t c10 h
      refine a_aload_n dX11_readHypothesis_58 rfl rfl ?_
      refine a_aload_n dX11_readHypothesis_59 rfl rfl ?_
      obtain ⟨r11, e12, h⟩ := bnd_t h
      refine a_get (v := .ref r11) dX11_readHypothesis_60 fl_11_41 ga1 gs2 (gvR e12 rfl) ?_
      refine a_aload_n dX11_readHypothesis_63 rfl rfl ?_
      obtain ⟨r13, e14, h⟩ := bnd_t h
      refine a_get (v := .ref r13) dX11_readHypothesis_64 fl_11_44 ga1 gs2 (gvR e14 rfl) ?_
      refine a_iload dX11_readHypothesis_67 rfl ?_
      refine a_iload_n dX11_readHypothesis_69 rfl rfl ?_
      obtain ⟨v15, M16, e17, h⟩ := bnd2_t h
      obtain ⟨n18, en19, e17⟩ := cal_t e17
      refine e_callV (As := [.ref r11, .ref r13, .int x4, .int x1]) (st := []) (a := a0) (ci := 11) false dX11_readHypothesis_70 mw_X11_isNamed (Or.inl ⟨rfl, ml_X11_227⟩) im_X11_isNamed se_X11_isNamed (by decide) ga1 gs2 rfl (Nat.le_of_ble_eq_true rfl) en19 (s_X11_isNamed e17) ?_
      refine a_if_eq 80 dX11_readHypothesis_73 (by decide) (fun c20 => ?_) (fun c20 => ?_)
      · replace h := ite_t c20 h
        refine a_iconst (v := 0) dX11_readHypothesis_80 (by decide) ?_
        refine a_istore_n dX11_readHypothesis_81 rfl (Nat.le_of_ble_eq_true rfl) (lv2 := [(3, .int 0), (0, .ref a0), (1, .int x1), (2, .int x2), (4, .int x4)]) rfl ?_
        refine a_iinc (v := (x4 + 1)) dX11_readHypothesis_82 rfl (by first | rfl | decide) (Nat.le_of_ble_eq_true rfl) (lv2 := [(4, .int (x4 + 1)), (3, .int 0), (0, .ref a0), (1, .int x1), (2, .int x2)]) rfl ?_
        refine a_goto 45 dX11_readHypothesis_85 (by decide) ?_
        exact a_lv (lv2 := [(0, .ref a0), (1, .int x1), (2, .int x2), (3, .int 0), (4, .int (x4 + 1))]) (fa_cons rfl (fa_cons rfl (fa_cons rfl (fa_cons rfl (fa_cons rfl fa_nil))))) (hJ _ _ _ h)
      · replace h := ite_f c20 h
        refine a_iconst (v := 1) dX11_readHypothesis_76 (by decide) ?_
        refine a_goto 81 dX11_readHypothesis_77 (by decide) ?_
        refine a_istore_n dX11_readHypothesis_81 rfl (Nat.le_of_ble_eq_true rfl) (lv2 := [(3, .int 1), (0, .ref a0), (1, .int x1), (2, .int x2), (4, .int x4)]) rfl ?_
        refine a_iinc (v := (x4 + 1)) dX11_readHypothesis_82 rfl (by first | rfl | decide) (Nat.le_of_ble_eq_true rfl) (lv2 := [(4, .int (x4 + 1)), (3, .int 1), (0, .ref a0), (1, .int x1), (2, .int x2)]) rfl ?_
        refine a_goto 45 dX11_readHypothesis_85 (by decide) ?_
        exact a_lv (lv2 := [(0, .ref a0), (1, .int x1), (2, .int x2), (3, .int 1), (4, .int (x4 + 1))]) (fa_cons rfl (fa_cons rfl (fa_cons rfl (fa_cons rfl (fa_cons rfl fa_nil))))) (hJ _ _ _ h)
set_option maxHeartbeats 4000000 in
set_option maxRecDepth 100000 in
noncomputable def T_X11_readHypothesis_105.{u} {α : Sort u} (J : Nat → List Value → Mem → α) (R : Unit → Mem → α) (N : α) (n : Nat) (a0 : Nat) (x1 : Int32) (x2 : Int32) (M : Mem) : α := gd (fO M a0 11) N (if (M.2.2.1 a0 35) = 6 then bnd2 (cal n (fun n => f_X11_fails n a0 4 x2 M)) N (fun _ M5 => gd (fO M5 a0 11) N (if (M5.2.2.1 a0 30) = 0 then J 131 [.ref a0, .int x1, .int x2, .int 0] M5 else R () M5)) else if (M.2.2.1 a0 30) = 0 then J 131 [.ref a0, .int x1, .int x2, .int 0] M else R () M)
set_option maxHeartbeats 4000000 in
set_option maxRecDepth 100000 in
theorem n_X11_readHypothesis_105.{u, v} {α : Sort u} {β : Sort v} (h : α → β) (J : Nat → List Value → Mem → α) (R : Unit → Mem → α) (N : α) (n : Nat) (a0 : Nat) (x1 : Int32) (x2 : Int32) (M : Mem) : h (T_X11_readHypothesis_105 J R N n a0 x1 x2 M) = T_X11_readHypothesis_105 (fun c l M => h (J c l M)) (fun v M => h (R v M)) (h N) n a0 x1 x2 M := by
  simp only [T_X11_readHypothesis_105, nat_ite h, nat_gd h, nat_bnd h, nat_bnd2 h]
set_option maxHeartbeats 4000000 in
set_option maxRecDepth 100000 in
theorem w_X11_readHypothesis_105 {X : Nat × (Nat → Int32)} {al : Bool} {n : Nat} {Q : Option Value → Mem → Prop} {J : Nat → List Value → Mem → Prop} (hJ : ∀ c l M, J c l M → PW_X11_readHypothesis X al n Q c l M) {R : Unit → Mem → Prop} (hR : ∀ v M, R v M → Q none M) {a0 : Nat} {x1 : Int32} {x2 : Int32} {M : Mem} (h : T_X11_readHypothesis_105 J R False n a0 x1 x2 M) : AW X (RX11, cX11_readHypothesis, 5, none, false, al, n) 0 0 105 [(0, .ref a0), (1, .int x1), (2, .int x2)] [] M Q := by
  unfold T_X11_readHypothesis_105 at h
  refine a_aload_n dX11_readHypothesis_105 rfl rfl ?_
  obtain ⟨⟨ga1, gs2⟩, h⟩ := gd_t h
  refine a_get (v := .int (M.2.2.1 a0 35)) dX11_readHypothesis_106 fl_11_224 ga1 gs2 rfl ?_
  refine a_bipush (v := 6) dX11_readHypothesis_109 (by decide) ?_
  refine a_icmp_ne 120 dX11_readHypothesis_111 (by decide) (fun c3 => ?_) (fun c3 => ?_)
  · replace h := ite_f c3 h
    refine a_aload_n dX11_readHypothesis_120 rfl rfl ?_
    refine a_get (v := .int (M.2.2.1 a0 30)) dX11_readHypothesis_121 fl_11_163 ga1 gs2 rfl ?_
    refine a_if_eq 128 dX11_readHypothesis_124 (by decide) (fun c4 => ?_) (fun c4 => ?_)
    · replace h := ite_t c4 h
      refine a_iconst (v := 0) dX11_readHypothesis_128 (by decide) ?_
      refine a_istore dX11_readHypothesis_129 (Nat.le_of_ble_eq_true rfl) (lv2 := [(4, .int 0), (0, .ref a0), (1, .int x1), (2, .int x2)]) rfl ?_
      exact a_lv (lv2 := [(0, .ref a0), (1, .int x1), (2, .int x2), (4, .int 0)]) (fa_cons rfl (fa_cons rfl (fa_cons rfl (fa_cons rfl fa_nil)))) (hJ _ _ _ h)
    · replace h := ite_f c4 h
      exact a_vret dX11_readHypothesis_127 rfl (hR _ _ h)
  · replace h := ite_t c3 h
    refine a_aload_n dX11_readHypothesis_114 rfl rfl ?_
    refine a_iconst (v := 4) dX11_readHypothesis_115 (by decide) ?_
    refine a_iload_n dX11_readHypothesis_116 rfl rfl ?_
    obtain ⟨_, M5, e6, h⟩ := bnd2_t h
    obtain ⟨n7, en8, e6⟩ := cal_t e6
    refine e_callV (As := [.int 4, .int x2]) (st := []) (a := a0) (ci := 11) false dX11_readHypothesis_117 mw_X11_fails (Or.inl ⟨rfl, ml_X11_209⟩) im_X11_fails se_X11_fails (by decide) ga1 gs2 rfl (Nat.le_of_ble_eq_true rfl) en8 (s_X11_fails e6) ?_
    refine a_aload_n dX11_readHypothesis_120 rfl rfl ?_
    obtain ⟨⟨ga9, gs10⟩, h⟩ := gd_t h
    refine a_get (v := .int (M5.2.2.1 a0 30)) dX11_readHypothesis_121 fl_11_163 ga9 gs10 rfl ?_
    refine a_if_eq 128 dX11_readHypothesis_124 (by decide) (fun c11 => ?_) (fun c11 => ?_)
    · replace h := ite_t c11 h
      refine a_iconst (v := 0) dX11_readHypothesis_128 (by decide) ?_
      refine a_istore dX11_readHypothesis_129 (Nat.le_of_ble_eq_true rfl) (lv2 := [(4, .int 0), (0, .ref a0), (1, .int x1), (2, .int x2)]) rfl ?_
      exact a_lv (lv2 := [(0, .ref a0), (1, .int x1), (2, .int x2), (4, .int 0)]) (fa_cons rfl (fa_cons rfl (fa_cons rfl (fa_cons rfl fa_nil)))) (hJ _ _ _ h)
    · replace h := ite_f c11 h
      exact a_vret dX11_readHypothesis_127 rfl (hR _ _ h)
set_option maxHeartbeats 4000000 in
set_option maxRecDepth 100000 in
noncomputable def T_X11_readHypothesis_131.{u} {α : Sort u} (J : Nat → List Value → Mem → α) (R : Unit → Mem → α) (N : α) (n : Nat) (a0 : Nat) (x1 : Int32) (x2 : Int32) (x4 : Int32) (M : Mem) : α := if 4 ≤ x4 then gd (fO M a0 11) N (bnd (M.2.2.2.2 a0 13) N (fun r4 => gd (fA M r4 1 (M.2.2.1 a0 35)) N (bnd (M.2.2.2.2 a0 14) N (fun r10 => bnd2 (cal n (fun n => f_X11_formulaRead n a0 (wI (wI M r4 ((M.2.2.1 a0 35).toNatClampNeg) x1) a0 29 (((wI M r4 ((M.2.2.1 a0 35).toNatClampNeg) x1).2.2.1 a0 29) + x1)))) N (fun v12 M13 => gd (fA M13 r10 1 ((wI (wI M r4 ((M.2.2.1 a0 35).toNatClampNeg) x1) a0 29 (((wI M r4 ((M.2.2.1 a0 35).toNatClampNeg) x1).2.2.1 a0 29) + x1)).2.2.1 a0 35)) N (gd (fO M13 a0 11) N (bnd2 (cal n (fun n => f_X11_blanks n a0 (wI M13 r10 (((wI (wI M r4 ((M.2.2.1 a0 35).toNatClampNeg) x1) a0 29 (((wI M r4 ((M.2.2.1 a0 35).toNatClampNeg) x1).2.2.1 a0 29) + x1)).2.2.1 a0 35).toNatClampNeg) v12))) N (fun _ M23 => gd (fO M23 a0 11) N (if (M23.2.2.1 a0 30) = 0 then bnd2 (cal n (fun n => f_X11_peek n a0 M23)) N (fun v30 M31 => if v30 = 59 then J 238 [.ref a0] M31 else gd (fO M31 a0 11) N (bnd2 (cal n (fun n => f_X11_fails n a0 1 (M31.2.2.1 a0 29) M31)) N (fun _ M38 => J 238 [.ref a0] M38))) else J 238 [.ref a0] M23))))))))) else gd (fO M a0 11) N (bnd (M.2.2.2.2 a0 12) N (fun r44 => if x1 ≤ x4 then gd (fA M r44 1 ((4 * (M.2.2.1 a0 35)) + x4)) N (J 131 [.ref a0, .int x1, .int x2, .int (x4 + 1)] (wI M r44 (((4 * (M.2.2.1 a0 35)) + x4).toNatClampNeg) 0)) else bnd (M.2.2.2.2 a0 26) N (fun r51 => gd (fA M r51 0 (x2 + x4)) N (gd (fA M r44 1 ((4 * (M.2.2.1 a0 35)) + x4)) N (J 131 [.ref a0, .int x1, .int x2, .int (x4 + 1)] (wI M r44 (((4 * (M.2.2.1 a0 35)) + x4).toNatClampNeg) (M.2.2.1 r51 ((x2 + x4).toNatClampNeg))))))))
set_option maxHeartbeats 4000000 in
set_option maxRecDepth 100000 in
theorem n_X11_readHypothesis_131.{u, v} {α : Sort u} {β : Sort v} (h : α → β) (J : Nat → List Value → Mem → α) (R : Unit → Mem → α) (N : α) (n : Nat) (a0 : Nat) (x1 : Int32) (x2 : Int32) (x4 : Int32) (M : Mem) : h (T_X11_readHypothesis_131 J R N n a0 x1 x2 x4 M) = T_X11_readHypothesis_131 (fun c l M => h (J c l M)) (fun v M => h (R v M)) (h N) n a0 x1 x2 x4 M := by
  simp only [T_X11_readHypothesis_131, nat_ite h, nat_gd h, nat_bnd h, nat_bnd2 h]
set_option maxHeartbeats 4000000 in
set_option maxRecDepth 100000 in
theorem w_X11_readHypothesis_131 {X : Nat × (Nat → Int32)} {al : Bool} {n : Nat} {Q : Option Value → Mem → Prop} {J : Nat → List Value → Mem → Prop} (hJ : ∀ c l M, J c l M → PW_X11_readHypothesis X al n Q c l M) {R : Unit → Mem → Prop} (hR : ∀ v M, R v M → Q none M) {a0 : Nat} {x1 : Int32} {x2 : Int32} {x4 : Int32} {M : Mem} (h : T_X11_readHypothesis_131 J R False n a0 x1 x2 x4 M) : AW X (RX11, cX11_readHypothesis, 5, none, false, al, n) 0 0 131 [(0, .ref a0), (1, .int x1), (2, .int x2), (4, .int x4)] [] M Q := by
  unfold T_X11_readHypothesis_131 at h
  refine a_iload dX11_readHypothesis_131 rfl ?_
  refine a_iconst (v := 4) dX11_readHypothesis_133 (by decide) ?_
  refine a_icmp_ge 176 dX11_readHypothesis_134 (by decide) (fun c1 => ?_) (fun c1 => ?_)
  · replace h := ite_t c1 h
    refine a_aload_n dX11_readHypothesis_176 rfl rfl ?_
    obtain ⟨⟨ga2, gs3⟩, h⟩ := gd_t h
    obtain ⟨r4, e5, h⟩ := bnd_t h
    refine a_get (v := .ref r4) dX11_readHypothesis_177 fl_11_44 ga2 gs3 (gvR e5 rfl) ?_
    refine a_aload_n dX11_readHypothesis_180 rfl rfl ?_
    refine a_get (v := .int (M.2.2.1 a0 35)) dX11_readHypothesis_181 fl_11_224 ga2 gs3 rfl ?_
    refine a_iload_n dX11_readHypothesis_184 rfl rfl ?_
    obtain ⟨⟨ga6, gn7, gs8, gi9⟩, h⟩ := gd_t h
    refine a_iastore dX11_readHypothesis_185 ga6 gs8 gi9 ?_
    refine a_aload_n dX11_readHypothesis_186 rfl rfl ?_
    refine a_dup dX11_readHypothesis_187 rfl ?_
    refine a_get (v := .int ((wI M r4 ((M.2.2.1 a0 35).toNatClampNeg) x1).2.2.1 a0 29)) dX11_readHypothesis_188 fl_11_157 ga2 gs3 rfl ?_
    refine a_iload_n dX11_readHypothesis_191 rfl rfl ?_
    refine a_iadd dX11_readHypothesis_192 ?_
    refine a_putI dX11_readHypothesis_193 (Or.inl ⟨fl_11_157, Or.inl rfl⟩) rfl ga2 gs3 rfl rfl ?_
    refine a_aload_n dX11_readHypothesis_196 rfl rfl ?_
    obtain ⟨r10, e11, h⟩ := bnd_t h
    refine a_get (v := .ref r10) dX11_readHypothesis_197 fl_11_47 ga2 gs3 (gvR e11 rfl) ?_
    refine a_aload_n dX11_readHypothesis_200 rfl rfl ?_
    refine a_get (v := .int ((wI (wI M r4 ((M.2.2.1 a0 35).toNatClampNeg) x1) a0 29 (((wI M r4 ((M.2.2.1 a0 35).toNatClampNeg) x1).2.2.1 a0 29) + x1)).2.2.1 a0 35)) dX11_readHypothesis_201 fl_11_224 ga2 gs3 rfl ?_
    refine a_aload_n dX11_readHypothesis_204 rfl rfl ?_
    obtain ⟨v12, M13, e14, h⟩ := bnd2_t h
    obtain ⟨n15, en16, e14⟩ := cal_t e14
    refine e_callV (As := []) (st := [.int ((wI (wI M r4 ((M.2.2.1 a0 35).toNatClampNeg) x1) a0 29 (((wI M r4 ((M.2.2.1 a0 35).toNatClampNeg) x1).2.2.1 a0 29) + x1)).2.2.1 a0 35), .ref r10]) (a := a0) (ci := 11) false dX11_readHypothesis_205 mw_X11_formulaRead (Or.inl ⟨rfl, ml_X11_231⟩) im_X11_formulaRead se_X11_formulaRead (by decide) ga2 gs3 rfl (Nat.le_of_ble_eq_true rfl) en16 (s_X11_formulaRead e14) ?_
    obtain ⟨⟨ga17, gn18, gs19, gi20⟩, h⟩ := gd_t h
    refine a_iastore dX11_readHypothesis_208 ga17 gs19 gi20 ?_
    refine a_aload_n dX11_readHypothesis_209 rfl rfl ?_
    obtain ⟨⟨ga21, gs22⟩, h⟩ := gd_t h
    obtain ⟨_, M23, e24, h⟩ := bnd2_t h
    obtain ⟨n25, en26, e24⟩ := cal_t e24
    refine e_callV (As := []) (st := []) (a := a0) (ci := 11) false dX11_readHypothesis_210 mw_X11_blanks (Or.inl ⟨rfl, ml_X11_173⟩) im_X11_blanks se_X11_blanks (by decide) ga21 gs22 rfl (Nat.le_of_ble_eq_true rfl) en26 (s_X11_blanks e24) ?_
    refine a_aload_n dX11_readHypothesis_213 rfl rfl ?_
    obtain ⟨⟨ga27, gs28⟩, h⟩ := gd_t h
    refine a_get (v := .int (M23.2.2.1 a0 30)) dX11_readHypothesis_214 fl_11_163 ga27 gs28 rfl ?_
    refine a_if_ne 238 dX11_readHypothesis_217 (by decide) (fun c29 => ?_) (fun c29 => ?_)
    · replace h := ite_f c29 h
      exact a_lv (lv2 := [(0, .ref a0)]) (fa_cons rfl fa_nil) (hJ _ _ _ h)
    · replace h := ite_t c29 h
      refine a_aload_n dX11_readHypothesis_220 rfl rfl ?_
      obtain ⟨v30, M31, e32, h⟩ := bnd2_t h
      obtain ⟨n33, en34, e32⟩ := cal_t e32
      refine e_callV (As := []) (st := []) (a := a0) (ci := 11) false dX11_readHypothesis_221 mw_X11_peek (Or.inl ⟨rfl, ml_X11_169⟩) im_X11_peek se_X11_peek (by decide) ga27 gs28 rfl (Nat.le_of_ble_eq_true rfl) en34 (s_X11_peek e32) ?_
      refine a_bipush (v := 59) dX11_readHypothesis_224 (by decide) ?_
      refine a_icmp_eq 238 dX11_readHypothesis_226 (by decide) (fun c35 => ?_) (fun c35 => ?_)
      · replace h := ite_t c35 h
        exact a_lv (lv2 := [(0, .ref a0)]) (fa_cons rfl fa_nil) (hJ _ _ _ h)
      · replace h := ite_f c35 h
        refine a_aload_n dX11_readHypothesis_229 rfl rfl ?_
        refine a_iconst (v := 1) dX11_readHypothesis_230 (by decide) ?_
        refine a_aload_n dX11_readHypothesis_231 rfl rfl ?_
        obtain ⟨⟨ga36, gs37⟩, h⟩ := gd_t h
        refine a_get (v := .int (M31.2.2.1 a0 29)) dX11_readHypothesis_232 fl_11_157 ga36 gs37 rfl ?_
        obtain ⟨_, M38, e39, h⟩ := bnd2_t h
        obtain ⟨n40, en41, e39⟩ := cal_t e39
        refine e_callV (As := [.int 1, .int (M31.2.2.1 a0 29)]) (st := []) (a := a0) (ci := 11) false dX11_readHypothesis_235 mw_X11_fails (Or.inl ⟨rfl, ml_X11_209⟩) im_X11_fails se_X11_fails (by decide) ga36 gs37 rfl (Nat.le_of_ble_eq_true rfl) en41 (s_X11_fails e39) ?_
        exact a_lv (lv2 := [(0, .ref a0)]) (fa_cons rfl fa_nil) (hJ _ _ _ h)
  · replace h := ite_f c1 h
    refine a_aload_n dX11_readHypothesis_137 rfl rfl ?_
    obtain ⟨⟨ga42, gs43⟩, h⟩ := gd_t h
    obtain ⟨r44, e45, h⟩ := bnd_t h
    refine a_get (v := .ref r44) dX11_readHypothesis_138 fl_11_41 ga42 gs43 (gvR e45 rfl) ?_
    refine a_iconst (v := 4) dX11_readHypothesis_141 (by decide) ?_
    refine a_aload_n dX11_readHypothesis_142 rfl rfl ?_
    refine a_get (v := .int (M.2.2.1 a0 35)) dX11_readHypothesis_143 fl_11_224 ga42 gs43 rfl ?_
    refine a_imul dX11_readHypothesis_146 ?_
    refine a_iload dX11_readHypothesis_147 rfl ?_
    refine a_iadd dX11_readHypothesis_149 ?_
    refine a_iload dX11_readHypothesis_150 rfl ?_
    refine a_iload_n dX11_readHypothesis_152 rfl rfl ?_
    refine a_icmp_ge 168 dX11_readHypothesis_153 (by decide) (fun c46 => ?_) (fun c46 => ?_)
    · replace h := ite_t c46 h
      refine a_iconst (v := 0) dX11_readHypothesis_168 (by decide) ?_
      obtain ⟨⟨ga47, gn48, gs49, gi50⟩, h⟩ := gd_t h
      refine a_iastore dX11_readHypothesis_169 ga47 gs49 gi50 ?_
      refine a_iinc (v := (x4 + 1)) dX11_readHypothesis_170 rfl (by first | rfl | decide) (Nat.le_of_ble_eq_true rfl) (lv2 := [(4, .int (x4 + 1)), (0, .ref a0), (1, .int x1), (2, .int x2)]) rfl ?_
      refine a_goto 131 dX11_readHypothesis_173 (by decide) ?_
      exact a_lv (lv2 := [(0, .ref a0), (1, .int x1), (2, .int x2), (4, .int (x4 + 1))]) (fa_cons rfl (fa_cons rfl (fa_cons rfl (fa_cons rfl fa_nil)))) (hJ _ _ _ h)
    · replace h := ite_f c46 h
      refine a_aload_n dX11_readHypothesis_156 rfl rfl ?_
      obtain ⟨r51, e52, h⟩ := bnd_t h
      refine a_get (v := .ref r51) dX11_readHypothesis_157 fl_11_71 ga42 gs43 (gvR e52 rfl) ?_
      refine a_iload_n dX11_readHypothesis_160 rfl rfl ?_
      refine a_iload dX11_readHypothesis_161 rfl ?_
      refine a_iadd dX11_readHypothesis_163 ?_
      obtain ⟨⟨ga53, gn54, gs55, gi56⟩, h⟩ := gd_t h
      refine a_baload dX11_readHypothesis_164 (by decide) ga53 gs55 gi56 ?_
      refine a_goto 169 dX11_readHypothesis_165 (by decide) ?_
      obtain ⟨⟨ga57, gn58, gs59, gi60⟩, h⟩ := gd_t h
      refine a_iastore dX11_readHypothesis_169 ga57 gs59 gi60 ?_
      refine a_iinc (v := (x4 + 1)) dX11_readHypothesis_170 rfl (by first | rfl | decide) (Nat.le_of_ble_eq_true rfl) (lv2 := [(4, .int (x4 + 1)), (0, .ref a0), (1, .int x1), (2, .int x2)]) rfl ?_
      refine a_goto 131 dX11_readHypothesis_173 (by decide) ?_
      exact a_lv (lv2 := [(0, .ref a0), (1, .int x1), (2, .int x2), (4, .int (x4 + 1))]) (fa_cons rfl (fa_cons rfl (fa_cons rfl (fa_cons rfl fa_nil)))) (hJ _ _ _ h)
set_option maxHeartbeats 4000000 in
set_option maxRecDepth 100000 in
noncomputable def T_X11_readHypothesis_238.{u} {α : Sort u} (J : Nat → List Value → Mem → α) (R : Unit → Mem → α) (N : α) (n : Nat) (a0 : Nat) (M : Mem) : α := gd (fO M a0 11) N (R () (wI (wI M a0 29 ((M.2.2.1 a0 29) + 1)) a0 35 (((wI M a0 29 ((M.2.2.1 a0 29) + 1)).2.2.1 a0 35) + 1)))
set_option maxHeartbeats 4000000 in
set_option maxRecDepth 100000 in
theorem n_X11_readHypothesis_238.{u, v} {α : Sort u} {β : Sort v} (h : α → β) (J : Nat → List Value → Mem → α) (R : Unit → Mem → α) (N : α) (n : Nat) (a0 : Nat) (M : Mem) : h (T_X11_readHypothesis_238 J R N n a0 M) = T_X11_readHypothesis_238 (fun c l M => h (J c l M)) (fun v M => h (R v M)) (h N) n a0 M := by
  simp only [T_X11_readHypothesis_238, nat_ite h, nat_gd h, nat_bnd h, nat_bnd2 h]
set_option maxHeartbeats 4000000 in
set_option maxRecDepth 100000 in
theorem w_X11_readHypothesis_238 {X : Nat × (Nat → Int32)} {al : Bool} {n : Nat} {Q : Option Value → Mem → Prop} {J : Nat → List Value → Mem → Prop} (hJ : ∀ c l M, J c l M → PW_X11_readHypothesis X al n Q c l M) {R : Unit → Mem → Prop} (hR : ∀ v M, R v M → Q none M) {a0 : Nat} {M : Mem} (h : T_X11_readHypothesis_238 J R False n a0 M) : AW X (RX11, cX11_readHypothesis, 5, none, false, al, n) 0 0 238 [(0, .ref a0)] [] M Q := by
  unfold T_X11_readHypothesis_238 at h
  refine a_aload_n dX11_readHypothesis_238 rfl rfl ?_
  refine a_dup dX11_readHypothesis_239 rfl ?_
  obtain ⟨⟨ga1, gs2⟩, h⟩ := gd_t h
  refine a_get (v := .int (M.2.2.1 a0 29)) dX11_readHypothesis_240 fl_11_157 ga1 gs2 rfl ?_
  refine a_iconst (v := 1) dX11_readHypothesis_243 (by decide) ?_
  refine a_iadd dX11_readHypothesis_244 ?_
  refine a_putI dX11_readHypothesis_245 (Or.inl ⟨fl_11_157, Or.inl rfl⟩) rfl ga1 gs2 rfl rfl ?_
  refine a_aload_n dX11_readHypothesis_248 rfl rfl ?_
  refine a_dup dX11_readHypothesis_249 rfl ?_
  refine a_get (v := .int ((wI M a0 29 ((M.2.2.1 a0 29) + 1)).2.2.1 a0 35)) dX11_readHypothesis_250 fl_11_224 ga1 gs2 rfl ?_
  refine a_iconst (v := 1) dX11_readHypothesis_253 (by decide) ?_
  refine a_iadd dX11_readHypothesis_254 ?_
  refine a_putI dX11_readHypothesis_255 (Or.inl ⟨fl_11_224, Or.inl rfl⟩) rfl ga1 gs2 rfl rfl ?_
  exact a_vret dX11_readHypothesis_258 rfl (hR _ _ h)
set_option maxHeartbeats 4000000 in
set_option maxRecDepth 100000 in
noncomputable def st_X11_readHypothesis (n : Nat) (s : Sg) : Option (Sg ⊕ (Unit × Mem)) := if s.1 = 0 then vR s.2.1 none (fun a0 t => vE t none (T_X11_readHypothesis_0 (fun c l M => some (.inl (c, l, M))) (fun v M => some (.inr (v, M))) none n a0 s.2.2)) else if s.1 = 20 then vR s.2.1 none (fun a0 t => vI t none (fun x1 t => vI t none (fun x2 t => vE t none (T_X11_readHypothesis_20 (fun c l M => some (.inl (c, l, M))) (fun v M => some (.inr (v, M))) none n a0 x1 x2 s.2.2)))) else if s.1 = 45 then vR s.2.1 none (fun a0 t => vI t none (fun x1 t => vI t none (fun x2 t => vI t none (fun x3 t => vI t none (fun x4 t => vE t none (T_X11_readHypothesis_45 (fun c l M => some (.inl (c, l, M))) (fun v M => some (.inr (v, M))) none n a0 x1 x2 x3 x4 s.2.2)))))) else if s.1 = 105 then vR s.2.1 none (fun a0 t => vI t none (fun x1 t => vI t none (fun x2 t => vE t none (T_X11_readHypothesis_105 (fun c l M => some (.inl (c, l, M))) (fun v M => some (.inr (v, M))) none n a0 x1 x2 s.2.2)))) else if s.1 = 131 then vR s.2.1 none (fun a0 t => vI t none (fun x1 t => vI t none (fun x2 t => vI t none (fun x4 t => vE t none (T_X11_readHypothesis_131 (fun c l M => some (.inl (c, l, M))) (fun v M => some (.inr (v, M))) none n a0 x1 x2 x4 s.2.2))))) else if s.1 = 238 then vR s.2.1 none (fun a0 t => vE t none (T_X11_readHypothesis_238 (fun c l M => some (.inl (c, l, M))) (fun v M => some (.inr (v, M))) none n a0 s.2.2)) else none
noncomputable abbrev g_X11_readHypothesis_0 (n : Nat) (a0 : Nat) (M : Mem) : Option (Unit × Mem) := lp (st_X11_readHypothesis n) (0, [.ref a0], M)
set_option maxHeartbeats 4000000 in
set_option maxRecDepth 100000 in
theorem ge_X11_readHypothesis_0 (n : Nat) (a0 : Nat) (M : Mem) : g_X11_readHypothesis_0 n a0 M = T_X11_readHypothesis_0 (fun c l M => lp (st_X11_readHypothesis n) (c, l, M)) (fun v M => some (v, M)) none n a0 M := (lp_eq _ _).trans (n_X11_readHypothesis_0 (lpK (st_X11_readHypothesis n)) (fun c l M => some (.inl (c, l, M))) (fun v M => some (.inr (v, M))) none n a0 M)
noncomputable abbrev g_X11_readHypothesis_20 (n : Nat) (a0 : Nat) (x1 : Int32) (x2 : Int32) (M : Mem) : Option (Unit × Mem) := lp (st_X11_readHypothesis n) (20, [.ref a0, .int x1, .int x2], M)
set_option maxHeartbeats 4000000 in
set_option maxRecDepth 100000 in
theorem ge_X11_readHypothesis_20 (n : Nat) (a0 : Nat) (x1 : Int32) (x2 : Int32) (M : Mem) : g_X11_readHypothesis_20 n a0 x1 x2 M = T_X11_readHypothesis_20 (fun c l M => lp (st_X11_readHypothesis n) (c, l, M)) (fun v M => some (v, M)) none n a0 x1 x2 M := (lp_eq _ _).trans (n_X11_readHypothesis_20 (lpK (st_X11_readHypothesis n)) (fun c l M => some (.inl (c, l, M))) (fun v M => some (.inr (v, M))) none n a0 x1 x2 M)
noncomputable abbrev g_X11_readHypothesis_45 (n : Nat) (a0 : Nat) (x1 : Int32) (x2 : Int32) (x3 : Int32) (x4 : Int32) (M : Mem) : Option (Unit × Mem) := lp (st_X11_readHypothesis n) (45, [.ref a0, .int x1, .int x2, .int x3, .int x4], M)
set_option maxHeartbeats 4000000 in
set_option maxRecDepth 100000 in
theorem ge_X11_readHypothesis_45 (n : Nat) (a0 : Nat) (x1 : Int32) (x2 : Int32) (x3 : Int32) (x4 : Int32) (M : Mem) : g_X11_readHypothesis_45 n a0 x1 x2 x3 x4 M = T_X11_readHypothesis_45 (fun c l M => lp (st_X11_readHypothesis n) (c, l, M)) (fun v M => some (v, M)) none n a0 x1 x2 x3 x4 M := (lp_eq _ _).trans (n_X11_readHypothesis_45 (lpK (st_X11_readHypothesis n)) (fun c l M => some (.inl (c, l, M))) (fun v M => some (.inr (v, M))) none n a0 x1 x2 x3 x4 M)
noncomputable abbrev g_X11_readHypothesis_105 (n : Nat) (a0 : Nat) (x1 : Int32) (x2 : Int32) (M : Mem) : Option (Unit × Mem) := lp (st_X11_readHypothesis n) (105, [.ref a0, .int x1, .int x2], M)
set_option maxHeartbeats 4000000 in
set_option maxRecDepth 100000 in
theorem ge_X11_readHypothesis_105 (n : Nat) (a0 : Nat) (x1 : Int32) (x2 : Int32) (M : Mem) : g_X11_readHypothesis_105 n a0 x1 x2 M = T_X11_readHypothesis_105 (fun c l M => lp (st_X11_readHypothesis n) (c, l, M)) (fun v M => some (v, M)) none n a0 x1 x2 M := (lp_eq _ _).trans (n_X11_readHypothesis_105 (lpK (st_X11_readHypothesis n)) (fun c l M => some (.inl (c, l, M))) (fun v M => some (.inr (v, M))) none n a0 x1 x2 M)
noncomputable abbrev g_X11_readHypothesis_131 (n : Nat) (a0 : Nat) (x1 : Int32) (x2 : Int32) (x4 : Int32) (M : Mem) : Option (Unit × Mem) := lp (st_X11_readHypothesis n) (131, [.ref a0, .int x1, .int x2, .int x4], M)
set_option maxHeartbeats 4000000 in
set_option maxRecDepth 100000 in
theorem ge_X11_readHypothesis_131 (n : Nat) (a0 : Nat) (x1 : Int32) (x2 : Int32) (x4 : Int32) (M : Mem) : g_X11_readHypothesis_131 n a0 x1 x2 x4 M = T_X11_readHypothesis_131 (fun c l M => lp (st_X11_readHypothesis n) (c, l, M)) (fun v M => some (v, M)) none n a0 x1 x2 x4 M := (lp_eq _ _).trans (n_X11_readHypothesis_131 (lpK (st_X11_readHypothesis n)) (fun c l M => some (.inl (c, l, M))) (fun v M => some (.inr (v, M))) none n a0 x1 x2 x4 M)
noncomputable abbrev g_X11_readHypothesis_238 (n : Nat) (a0 : Nat) (M : Mem) : Option (Unit × Mem) := lp (st_X11_readHypothesis n) (238, [.ref a0], M)
set_option maxHeartbeats 4000000 in
set_option maxRecDepth 100000 in
theorem ge_X11_readHypothesis_238 (n : Nat) (a0 : Nat) (M : Mem) : g_X11_readHypothesis_238 n a0 M = T_X11_readHypothesis_238 (fun c l M => lp (st_X11_readHypothesis n) (c, l, M)) (fun v M => some (v, M)) none n a0 M := (lp_eq _ _).trans (n_X11_readHypothesis_238 (lpK (st_X11_readHypothesis n)) (fun c l M => some (.inl (c, l, M))) (fun v M => some (.inr (v, M))) none n a0 M)
noncomputable def b_X11_readHypothesis (n : Nat) (a0 : Nat) (M : Mem) : Option (Unit × Mem) := g_X11_readHypothesis_0 n a0 M
set_option maxHeartbeats 4000000 in
set_option maxRecDepth 100000 in
theorem sb_X11_readHypothesis {X : Nat × (Nat → Int32)} {al : Bool} {n : Nat} {a0 : Nat} {M : Mem} {v : Unit} {M1 : Mem} (h : b_X11_readHypothesis n a0 M = some (v, M1)) : AE yX11_readHypothesis cX11_readHypothesis 5 none al n X [.ref a0] M none M1 := by
  refine AM.of false (by decide +kernel) (by intro h; cases h) (Nat.le_of_ble_eq_true rfl) ?_
  refine lp_snd (P := fun s r => PW_X11_readHypothesis X al n (fun v M2 => v = none ∧ M2 = r.2) s.1 s.2.1 s.2.2) ?_ h
  clear h
  rintro ⟨c, l, M⟩ r h
  unfold st_X11_readHypothesis at h
  rcases ite_p h with ⟨e, h⟩ | ⟨e, h⟩
  · replace e : c = 0 := e
    subst e
    obtain ⟨a0, tt0, e, h⟩ := vR_p id h
    replace e : l = _ := e
    subst e
    obtain ⟨e, h⟩ := vE_p id h
    replace e : tt0 = [] := e
    subst e
    exact w_X11_readHypothesis_0 (J := fun c l M => PW_X11_readHypothesis X al n (fun v M2 => v = none ∧ M2 = r.2) c l M) (R := fun v M => (v, M) = r) (fun _ _ _ h => h) (fun v M h => by cases h; exact ⟨rfl, rfl⟩) ((n_X11_readHypothesis_0 (lpP (fun (s : Sg) (r : Unit × Mem) => PW_X11_readHypothesis X al n (fun v M2 => v = none ∧ M2 = r.2) s.1 s.2.1 s.2.2) r) (fun c l M => some (.inl (c, l, M))) (fun v M => some (.inr (v, M))) none n a0 M).mp h)
  rcases ite_p h with ⟨e, h⟩ | ⟨e, h⟩
  · replace e : c = 20 := e
    subst e
    obtain ⟨a0, tt0, e, h⟩ := vR_p id h
    replace e : l = _ := e
    subst e
    obtain ⟨x1, tt1, e, h⟩ := vI_p id h
    replace e : tt0 = _ := e
    subst e
    obtain ⟨x2, tt2, e, h⟩ := vI_p id h
    replace e : tt1 = _ := e
    subst e
    obtain ⟨e, h⟩ := vE_p id h
    replace e : tt2 = [] := e
    subst e
    exact w_X11_readHypothesis_20 (J := fun c l M => PW_X11_readHypothesis X al n (fun v M2 => v = none ∧ M2 = r.2) c l M) (R := fun v M => (v, M) = r) (fun _ _ _ h => h) (fun v M h => by cases h; exact ⟨rfl, rfl⟩) ((n_X11_readHypothesis_20 (lpP (fun (s : Sg) (r : Unit × Mem) => PW_X11_readHypothesis X al n (fun v M2 => v = none ∧ M2 = r.2) s.1 s.2.1 s.2.2) r) (fun c l M => some (.inl (c, l, M))) (fun v M => some (.inr (v, M))) none n a0 x1 x2 M).mp h)
  rcases ite_p h with ⟨e, h⟩ | ⟨e, h⟩
  · replace e : c = 45 := e
    subst e
    obtain ⟨a0, tt0, e, h⟩ := vR_p id h
    replace e : l = _ := e
    subst e
    obtain ⟨x1, tt1, e, h⟩ := vI_p id h
    replace e : tt0 = _ := e
    subst e
    obtain ⟨x2, tt2, e, h⟩ := vI_p id h
    replace e : tt1 = _ := e
    subst e
    obtain ⟨x3, tt3, e, h⟩ := vI_p id h
    replace e : tt2 = _ := e
    subst e
    obtain ⟨x4, tt4, e, h⟩ := vI_p id h
    replace e : tt3 = _ := e
    subst e
    obtain ⟨e, h⟩ := vE_p id h
    replace e : tt4 = [] := e
    subst e
    exact w_X11_readHypothesis_45 (J := fun c l M => PW_X11_readHypothesis X al n (fun v M2 => v = none ∧ M2 = r.2) c l M) (R := fun v M => (v, M) = r) (fun _ _ _ h => h) (fun v M h => by cases h; exact ⟨rfl, rfl⟩) ((n_X11_readHypothesis_45 (lpP (fun (s : Sg) (r : Unit × Mem) => PW_X11_readHypothesis X al n (fun v M2 => v = none ∧ M2 = r.2) s.1 s.2.1 s.2.2) r) (fun c l M => some (.inl (c, l, M))) (fun v M => some (.inr (v, M))) none n a0 x1 x2 x3 x4 M).mp h)
  rcases ite_p h with ⟨e, h⟩ | ⟨e, h⟩
  · replace e : c = 105 := e
    subst e
    obtain ⟨a0, tt0, e, h⟩ := vR_p id h
    replace e : l = _ := e
    subst e
    obtain ⟨x1, tt1, e, h⟩ := vI_p id h
    replace e : tt0 = _ := e
    subst e
    obtain ⟨x2, tt2, e, h⟩ := vI_p id h
    replace e : tt1 = _ := e
    subst e
    obtain ⟨e, h⟩ := vE_p id h
    replace e : tt2 = [] := e
    subst e
    exact w_X11_readHypothesis_105 (J := fun c l M => PW_X11_readHypothesis X al n (fun v M2 => v = none ∧ M2 = r.2) c l M) (R := fun v M => (v, M) = r) (fun _ _ _ h => h) (fun v M h => by cases h; exact ⟨rfl, rfl⟩) ((n_X11_readHypothesis_105 (lpP (fun (s : Sg) (r : Unit × Mem) => PW_X11_readHypothesis X al n (fun v M2 => v = none ∧ M2 = r.2) s.1 s.2.1 s.2.2) r) (fun c l M => some (.inl (c, l, M))) (fun v M => some (.inr (v, M))) none n a0 x1 x2 M).mp h)
  rcases ite_p h with ⟨e, h⟩ | ⟨e, h⟩
  · replace e : c = 131 := e
    subst e
    obtain ⟨a0, tt0, e, h⟩ := vR_p id h
    replace e : l = _ := e
    subst e
    obtain ⟨x1, tt1, e, h⟩ := vI_p id h
    replace e : tt0 = _ := e
    subst e
    obtain ⟨x2, tt2, e, h⟩ := vI_p id h
    replace e : tt1 = _ := e
    subst e
    obtain ⟨x4, tt3, e, h⟩ := vI_p id h
    replace e : tt2 = _ := e
    subst e
    obtain ⟨e, h⟩ := vE_p id h
    replace e : tt3 = [] := e
    subst e
    exact w_X11_readHypothesis_131 (J := fun c l M => PW_X11_readHypothesis X al n (fun v M2 => v = none ∧ M2 = r.2) c l M) (R := fun v M => (v, M) = r) (fun _ _ _ h => h) (fun v M h => by cases h; exact ⟨rfl, rfl⟩) ((n_X11_readHypothesis_131 (lpP (fun (s : Sg) (r : Unit × Mem) => PW_X11_readHypothesis X al n (fun v M2 => v = none ∧ M2 = r.2) s.1 s.2.1 s.2.2) r) (fun c l M => some (.inl (c, l, M))) (fun v M => some (.inr (v, M))) none n a0 x1 x2 x4 M).mp h)
  rcases ite_p h with ⟨e, h⟩ | ⟨e, h⟩
  · replace e : c = 238 := e
    subst e
    obtain ⟨a0, tt0, e, h⟩ := vR_p id h
    replace e : l = _ := e
    subst e
    obtain ⟨e, h⟩ := vE_p id h
    replace e : tt0 = [] := e
    subst e
    exact w_X11_readHypothesis_238 (J := fun c l M => PW_X11_readHypothesis X al n (fun v M2 => v = none ∧ M2 = r.2) c l M) (R := fun v M => (v, M) = r) (fun _ _ _ h => h) (fun v M h => by cases h; exact ⟨rfl, rfl⟩) ((n_X11_readHypothesis_238 (lpP (fun (s : Sg) (r : Unit × Mem) => PW_X11_readHypothesis X al n (fun v M2 => v = none ∧ M2 = r.2) s.1 s.2.1 s.2.2) r) (fun c l M => some (.inl (c, l, M))) (fun v M => some (.inr (v, M))) none n a0 M).mp h)
  · exact h.elim

noncomputable abbrev f_X11_readHypothesis := b_X11_readHypothesis
theorem s_X11_readHypothesis {X : Nat × (Nat → Int32)} {al : Bool} {n : Nat} {a0 : Nat} {M : Mem} {v : Unit} {M1 : Mem} (h : f_X11_readHypothesis n a0 M = some (v, M1)) : AE yX11_readHypothesis cX11_readHypothesis 5 none al n X [.ref a0] M none M1 := sb_X11_readHypothesis h
