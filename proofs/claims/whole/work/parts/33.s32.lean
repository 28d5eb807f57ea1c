/-! METHODS AS FUNCTIONS, written by wip/gen/shallow.py -/
def ix_X11_laysLines (c : Nat) : List Nat := if c = 0 then [0, 1] else if c = 17 then [0, 3] else []
def PW_X11_laysLines (X : Nat × (Nat → Int32)) (al : Bool) (n : Nat) (Q : Option Value → Mem → Prop) (c : Nat) (l : List Value) (M : Mem) : Prop := AW X (RX11, cX11_laysLines, 5, none, false, al, n) 0 0 c (List.zip (ix_X11_laysLines c) l) (l.drop (ix_X11_laysLines c).length) M Q
set_option maxHeartbeats 4000000 in
set_option maxRecDepth 100000 in
noncomputable def T_X11_laysLines_0.{u} {α : Sort u} (J : Nat → List Value → Mem → α) (R : Unit → Mem → α) (N : α) (n : Nat) (a0 : Nat) (x1 : Int32) (M : Mem) : α := gd (fO M a0 11) N (bnd2 (cal n (fun n => f_X11_takes n a0 x1 M)) N (fun _ M3 => gd (fO M3 a0 11) N (bnd2 (cal n (fun n => f_X11_asked n a0 M3)) N (fun v9 M10 => gd (fO M10 a0 11) N (J 17 [.ref a0, .int 0] (wI M10 a0 56 0))))))
set_option maxHeartbeats 4000000 in
set_option maxRecDepth 100000 in
theorem n_X11_laysLines_0.{u, v} {α : Sort u} {β : Sort v} (h : α → β) (J : Nat → List Value → Mem → α) (R : Unit → Mem → α) (N : α) (n : Nat) (a0 : Nat) (x1 : Int32) (M : Mem) : h (T_X11_laysLines_0 J R N n a0 x1 M) = T_X11_laysLines_0 (fun c l M => h (J c l M)) (fun v M => h (R v M)) (h N) n a0 x1 M := by
  simp only [T_X11_laysLines_0, nat_ite h, nat_gd h, nat_bnd h, nat_bnd2 h]
set_option maxHeartbeats 4000000 in
set_option maxRecDepth 100000 in
theorem w_X11_laysLines_0 {X : Nat × (Nat → Int32)} {al : Bool} {n : Nat} {Q : Option Value → Mem → Prop} {J : Nat → List Value → Mem → Prop} (hJ : ∀ c l M, J c l M → PW_X11_laysLines X al n Q c l M) {R : Unit → Mem → Prop} (hR : ∀ v M, R v M → Q none M) {a0 : Nat} {x1 : Int32} {M : Mem} (h : T_X11_laysLines_0 J R False n a0 x1 M) : AW X (RX11, cX11_laysLines, 5, none, false, al, n) 0 0 0 [(0, .ref a0), (1, .int x1)] [] M Q := by
  unfold T_X11_laysLines_0 at h
  refine a_aload_n dX11_laysLines_0 rfl rfl ?_
  refine a_iload_n dX11_laysLines_1 rfl rfl ?_
  obtain ⟨⟨ga1, gs2⟩, h⟩ := gd_t h
  obtain ⟨_, M3, e4, h⟩ := bnd2_t h
  obtain ⟨n5, en6, e4⟩ := cal_t e4
  refine e_callV (As := [.int x1]) (st := []) (a := a0) (ci := 11) false dX11_laysLines_2 mw_X11_takes (Or.inl ⟨rfl, ml_X11_346⟩) im_X11_takes se_X11_takes (by decide) ga1 gs2 rfl (Nat.le_of_ble_eq_true rfl) en6 (s_X11_takes e4) ?_
  refine a_aload_n dX11_laysLines_5 rfl rfl ?_
  obtain ⟨⟨ga7, gs8⟩, h⟩ := gd_t h
  obtain ⟨v9, M10, e11, h⟩ := bnd2_t h
  obtain ⟨n12, en13, e11⟩ := cal_t e11
  refine e_callV (As := []) (st := []) (a := a0) (ci := 11) false dX11_laysLines_6 mw_X11_asked (Or.inl ⟨rfl, ml_X11_331⟩) im_X11_asked se_X11_asked (by decide) ga7 gs8 rfl (Nat.le_of_ble_eq_true rfl) en13 (s_X11_asked e11) ?_
  refine a_istore_n dX11_laysLines_9 rfl (Nat.le_of_ble_eq_true rfl) (lv2 := [(2, .int v9), (0, .ref a0), (1, .int x1)]) rfl ?_
  refine a_aload_n dX11_laysLines_10 rfl rfl ?_
  refine a_iconst (v := 0) dX11_laysLines_11 (by decide) ?_
  obtain ⟨⟨ga14, gs15⟩, h⟩ := gd_t h
  refine a_putI dX11_laysLines_12 (Or.inl ⟨fl_11_414, Or.inl rfl⟩) rfl ga14 gs15 rfl rfl ?_
  refine a_iconst (v := 0) dX11_laysLines_15 (by decide) ?_
  refine a_istore_n dX11_laysLines_16 rfl (Nat.le_of_ble_eq_true rfl) (lv2 := [(3, .int 0), (2, .int v9), (0, .ref a0), (1, .int x1)]) rfl ?_
  exact a_lv (lv2 := [(0, .ref a0), (3, .int 0)]) (fa_cons rfl (fa_cons rfl fa_nil)) (hJ _ _ _ h)
set_option maxHeartbeats 4000000 in
set_option maxRecDepth 100000 in
noncomputable def T_X11_laysLines_17.{u} {α : Sort u} (J : Nat → List Value → Mem → α) (R : Unit → Mem → α) (N : α) (n : Nat) (a0 : Nat) (x3 : Int32) (M : Mem) : α := gd (fO M a0 11) N (if (M.2.2.1 a0 15) ≤ x3 then bnd2 (cal n (fun n => f_X11_linesFrom n a0 0 (wI M a0 43 0))) N (fun v4 M5 => R () M5) else bnd (M.2.2.2.2 a0 11) N (fun r9 => gd (fA M r9 1 x3) N (bnd2 (cal n (fun n => f_X11_line0 n a0 0 (M.2.2.1 r9 (x3.toNatClampNeg)) 0 M)) N (fun v15 M16 => J 17 [.ref a0, .int (x3 + 1)] M16))))
set_option maxHeartbeats 4000000 in
set_option maxRecDepth 100000 in
theorem n_X11_laysLines_17.{u, v} {α : Sort u} {β : Sort v} (h : α → β) (J : Nat → List Value → Mem → α) (R : Unit → Mem → α) (N : α) (n : Nat) (a0 : Nat) (x3 : Int32) (M : Mem) : h (T_X11_laysLines_17 J R N n a0 x3 M) = T_X11_laysLines_17 (fun c l M => h (J c l M)) (fun v M => h (R v M)) (h N) n a0 x3 M := by
  simp only [T_X11_laysLines_17, nat_ite h, nat_gd h, nat_bnd h, nat_bnd2 h]
set_option maxHeartbeats 4000000 in
set_option maxRecDepth 100000 in
theorem w_X11_laysLines_17 {X : Nat × (Nat → Int32)} {al : Bool} {n : Nat} {Q : Option Value → Mem → Prop} {J : Nat → List Value → Mem → Prop} (hJ : ∀ c l M, J c l M → PW_X11_laysLines X al n Q c l M) {R : Unit → Mem → Prop} (hR : ∀ v M, R v M → Q none M) {a0 : Nat} {x3 : Int32} {M : Mem} (h : T_X11_laysLines_17 J R False n a0 x3 M) : AW X (RX11, cX11_laysLines, 5, none, false, al, n) 0 0 17 [(0, .ref a0), (3, .int x3)] [] M Q := by
  unfold T_X11_laysLines_17 at h
  refine a_iload_n dX11_laysLines_17 rfl rfl ?_
  refine a_aload_n dX11_laysLines_18 rfl rfl ?_
  obtain ⟨⟨ga1, gs2⟩, h⟩ := gd_t h
  refine a_get (v := .int (M.2.2.1 a0 15)) dX11_laysLines_19 fl_11_144 ga1 gs2 rfl ?_
  refine a_icmp_ge 45 dX11_laysLines_22 (by decide) (fun c3 => ?_) (fun c3 => ?_)
  · replace h := ite_t c3 h
    refine a_aload_n dX11_laysLines_45 rfl rfl ?_
    refine a_iconst (v := 0) dX11_laysLines_46 (by decide) ?_
    refine a_putI dX11_laysLines_47 (Or.inl ⟨fl_11_283, Or.inl rfl⟩) rfl ga1 gs2 rfl rfl ?_
    refine a_aload_n dX11_laysLines_50 rfl rfl ?_
    refine a_iconst (v := 0) dX11_laysLines_51 (by decide) ?_
    obtain ⟨v4, M5, e6, h⟩ := bnd2_t h
    obtain ⟨n7, en8, e6⟩ := cal_t e6
    refine e_callV (As := [.int 0]) (st := []) (a := a0) (ci := 11) false dX11_laysLines_52 mw_X11_linesFrom (Or.inl ⟨rfl, ml_X11_420⟩) im_X11_linesFrom se_X11_linesFrom (by decide) ga1 gs2 rfl (Nat.le_of_ble_eq_true rfl) en8 (s_X11_linesFrom e6) ?_
    refine a_istore_n dX11_laysLines_55 rfl (Nat.le_of_ble_eq_true rfl) (lv2 := [(3, .int v4), (0, .ref a0)]) rfl ?_
    exact a_vret dX11_laysLines_56 rfl (hR _ _ h)
  · replace h := ite_f c3 h
    refine a_aload_n dX11_laysLines_25 rfl rfl ?_
    refine a_iconst (v := 0) dX11_laysLines_26 (by decide) ?_
    refine a_aload_n dX11_laysLines_27 rfl rfl ?_
    obtain ⟨r9, e10, h⟩ := bnd_t h
    refine a_get (v := .ref r9) dX11_laysLines_28 fl_11_38 ga1 gs2 (gvR e10 rfl) ?_
    refine a_iload_n dX11_laysLines_31 rfl rfl ?_
    obtain ⟨⟨ga11, gn12, gs13, gi14⟩, h⟩ := gd_t h
    refine a_iaload dX11_laysLines_32 ga11 gs13 gi14 ?_
    refine a_iconst (v := 0) dX11_laysLines_33 (by decide) ?_
    obtain ⟨v15, M16, e17, h⟩ := bnd2_t h
    obtain ⟨n18, en19, e17⟩ := cal_t e17
    refine e_callV (As := [.int 0, .int (M.2.2.1 r9 (x3.toNatClampNeg)), .int 0]) (st := []) (a := a0) (ci := 11) false dX11_laysLines_34 mw_X11_line0 (Or.inl ⟨rfl, ml_X11_417⟩) im_X11_line0 se_X11_line0 (by decide) ga1 gs2 rfl (Nat.le_of_ble_eq_true rfl) en19 (s_X11_line0 e17) ?_
    refine a_istore dX11_laysLines_37 (Nat.le_of_ble_eq_true rfl) (lv2 := [(4, .int v15), (0, .ref a0), (3, .int x3)]) rfl ?_
    refine a_iinc (v := (x3 + 1)) dX11_laysLines_39 rfl (by first | rfl | decide) (Nat.le_of_ble_eq_true rfl) (lv2 := [(3, .int (x3 + 1)), (4, .int v15), (0, .ref a0)]) rfl ?_
    refine a_goto 17 dX11_laysLines_42 (by decide) ?_
    exact a_lv (lv2 := [(0, .ref a0), (3, .int (x3 + 1))]) (fa_cons rfl (fa_cons rfl fa_nil)) (hJ _ _ _ h)
set_option maxHeartbeats 4000000 in
set_option maxRecDepth 100000 in
noncomputable def st_X11_laysLines (n : Nat) (s : Sg) : Option (Sg ⊕ (Unit × Mem)) := if s.1 = 0 then vR s.2.1 none (fun a0 t => vI t none (fun x1 t => vE t none (T_X11_laysLines_0 (fun c l M => some (.inl (c, l, M))) (fun v M => some (.inr (v, M))) none n a0 x1 s.2.2))) else if s.1 = 17 then vR s.2.1 none (fun a0 t => vI t none (fun x3 t => vE t none (T_X11_laysLines_17 (fun c l M => some (.inl (c, l, M))) (fun v M => some (.inr (v, M))) none n a0 x3 s.2.2))) else none
noncomputable abbrev g_X11_laysLines_0 (n : Nat) (a0 : Nat) (x1 : Int32) (M : Mem) : Option (Unit × Mem) := lp (st_X11_laysLines n) (0, [.ref a0, .int x1], M)
set_option maxHeartbeats 4000000 in
set_option maxRecDepth 100000 in
theorem ge_X11_laysLines_0 (n : Nat) (a0 : Nat) (x1 : Int32) (M : Mem) : g_X11_laysLines_0 n a0 x1 M = T_X11_laysLines_0 (fun c l M => lp (st_X11_laysLines n) (c, l, M)) (fun v M => some (v, M)) none n a0 x1 M := (lp_eq _ _).trans (n_X11_laysLines_0 (lpK (st_X11_laysLines n)) (fun c l M => some (.inl (c, l, M))) (fun v M => some (.inr (v, M))) none n a0 x1 M)
noncomputable abbrev g_X11_laysLines_17 (n : Nat) (a0 : Nat) (x3 : Int32) (M : Mem) : Option (Unit × Mem) := lp (st_X11_laysLines n) (17, [.ref a0, .int x3], M)
set_option maxHeartbeats 4000000 in
set_option maxRecDepth 100000 in
theorem ge_X11_laysLines_17 (n : Nat) (a0 : Nat) (x3 : Int32) (M : Mem) : g_X11_laysLines_17 n a0 x3 M = T_X11_laysLines_17 (fun c l M => lp (st_X11_laysLines n) (c, l, M)) (fun v M => some (v, M)) none n a0 x3 M := (lp_eq _ _).trans (n_X11_laysLines_17 (lpK (st_X11_laysLines n)) (fun c l M => some (.inl (c, l, M))) (fun v M => some (.inr (v, M))) none n a0 x3 M)
noncomputable def b_X11_laysLines (n : Nat) (a0 : Nat) (x1 : Int32) (M : Mem) : Option (Unit × Mem) := g_X11_laysLines_0 n a0 x1 M
set_option maxHeartbeats 4000000 in
set_option maxRecDepth 100000 in
theorem sb_X11_laysLines {X : Nat × (Nat → Int32)} {al : Bool} {n : Nat} {a0 : Nat} {x1 : Int32} {M : Mem} {v : Unit} {M1 : Mem} (h : b_X11_laysLines n a0 x1 M = some (v, M1)) : AE yX11_laysLines cX11_laysLines 5 none al n X [.ref a0, .int x1] M none M1 := by
  refine AM.of false (by decide +kernel) (by intro h; cases h) (Nat.le_of_ble_eq_true rfl) ?_
  refine lp_snd (P := fun s r => PW_X11_laysLines X al n (fun v M2 => v = none ∧ M2 = r.2) s.1 s.2.1 s.2.2) ?_ h
  clear h
  rintro ⟨c, l, M⟩ r h
  unfold st_X11_laysLines at h
  rcases ite_p h with ⟨e, h⟩ | ⟨e, h⟩
  · replace e : c = 0 := e
    subst e
    obtain ⟨a0, tt0, e, h⟩ := vR_p id h
    replace e : l = _ := e
    subst e
    obtain ⟨x1, tt1, e, h⟩ := vI_p id h
    replace e : tt0 = _ := e
    subst e
    obtain ⟨e, h⟩ := vE_p id h
    replace e : tt1 = [] := e
    subst e
    exact w_X11_laysLines_0 (J := fun c l M => PW_X11_laysLines X al n (fun v M2 => v = none ∧ M2 = r.2) c l M) (R := fun v M => (v, M) = r) (fun _ _ _ h => h) (fun v M h => by cases h; exact ⟨rfl, rfl⟩) ((n_X11_laysLines_0 (lpP (fun (s : Sg) (r : Unit × Mem) => PW_X11_laysLines X al n (fun v M2 => v = none ∧ M2 = r.2) s.1 s.2.1 s.2.2) r) (fun c l M => some (.inl (c, l, M))) (fun v M => some (.inr (v, M))) none n a0 x1 M).mp h)
  rcases ite_p h with ⟨e, h⟩ | ⟨e, h⟩
  · replace e : c = 17 := e
    subst e
    obtain ⟨a0, tt0, e, h⟩ := vR_p id h
    replace e : l = _ := e
    subst e
    obtain ⟨x3, tt1, e, h⟩ := vI_p id h
    replace e : tt0 = _ := e
    subst e
    obtain ⟨e, h⟩ := vE_p id h
    replace e : tt1 = [] := e
    subst e
    exact w_X11_laysLines_17 (J := fun c l M => PW_X11_laysLines X al n (fun v M2 => v = none ∧ M2 = r.2) c l M) (R := fun v M => (v, M) = r) (fun _ _ _ h => h) (fun v M h => by cases h; exact ⟨rfl, rfl⟩) ((n_X11_laysLines_17 (lpP (fun (s : Sg) (r : Unit × Mem) => PW_X11_laysLines X al n (fun v M2 => v = none ∧ M2 = r.2) s.1 s.2.1 s.2.2) r) (fun c l M => some (.inl (c, l, M))) (fun v M => some (.inr (v, M))) none n a0 x3 M).mp h)
  · exact h.elim

noncomputable abbrev f_X11_laysLines := b_X11_laysLines
theorem s_X11_laysLines {X : Nat × (Nat → Int32)} {al : Bool} {n : Nat} {a0 : Nat} {x1 : Int32} {M : Mem} {v : Unit} {M1 : Mem} (h : f_X11_laysLines n a0 x1 M = some (v, M1)) : AE yX11_laysLines cX11_laysLines 5 none al n X [.ref a0, .int x1] M none M1 := sb_X11_laysLines h
set_option maxHeartbeats 4000000 in
set_option maxRecDepth 100000 in
noncomputable def T_X11_lines_0.{u} {α : Sort u} (R : Int32 → Mem → α) (N : α) (n : Nat) (a0 : Nat) (x1 : Int32) (M : Mem) : α := gd (fO M a0 11) N (bnd2 (cal n (fun n => f_X11_isSlot n x1 (wI M a0 0 0))) N (fun v3 M4 => if v3 = 0 then R (-2) M4 else gd (fO M4 a0 11) N (bnd2 (cal n (fun n => f_X11_isEmpty n a0 x1 M4)) N (fun v11 M12 => if v11 = 0 then gd (fO M12 a0 11) N (bnd2 (cal n (fun n => f_X11_laysLines n a0 x1 M12)) N (fun _ M19 => gd (fO M19 a0 11) N (R (M19.2.2.1 a0 56) M19))) else R (-5) M12))))
set_option maxHeartbeats 4000000 in
set_option maxRecDepth 100000 in
theorem n_X11_lines_0.{u, v} {α : Sort u} {β : Sort v} (h : α → β) (R : Int32 → Mem → α) (N : α) (n : Nat) (a0 : Nat) (x1 : Int32) (M : Mem) : h (T_X11_lines_0 R N n a0 x1 M) = T_X11_lines_0 (fun v M => h (R v M)) (h N) n a0 x1 M := by
  simp only [T_X11_lines_0, nat_ite h, nat_gd h, nat_bnd h, nat_bnd2 h]
set_option maxHeartbeats 4000000 in
set_option maxRecDepth 100000 in
theorem w_X11_lines_0 {X : Nat × (Nat → Int32)} {al : Bool} {n : Nat} {Q : Option Value → Mem → Prop} {R : Int32 → Mem → Prop} (hR : ∀ v M, R v M → Q (some (.int v)) M) {a0 : Nat} {x1 : Int32} {M : Mem} (h : T_X11_lines_0 R False n a0 x1 M) : AW X (RX11, cX11_lines, 2, (some .int), false, al, n) 0 0 0 [(0, .ref a0), (1, .int x1)] [] M Q := by
  unfold T_X11_lines_0 at h
  refine a_aload_n dX11_lines_0 rfl rfl ?_
  refine a_iconst (v := 0) dX11_lines_1 (by decide) ?_
  obtain ⟨⟨ga1, gs2⟩, h⟩ := gd_t h
  refine a_putI dX11_lines_2 (Or.inl ⟨fl_11_1, Or.inl rfl⟩) rfl ga1 gs2 rfl rfl ?_
  refine a_iload_n dX11_lines_5 rfl rfl ?_
  obtain ⟨v3, M4, e5, h⟩ := bnd2_t h
  obtain ⟨n6, en7, e5⟩ := cal_t e5
  refine e_callS (As := [.int x1]) (st := []) false dX11_lines_6 mw_X11_isSlot (Or.inl ⟨rfl, ml_X11_271⟩) sm_X11_isSlot rfl (Nat.le_of_ble_eq_true rfl) en7 (s_X11_isSlot e5) ?_
  refine a_if_ne 15 dX11_lines_9 (by decide) (fun c8 => ?_) (fun c8 => ?_)
  · replace h := ite_f c8 h
    refine a_aload_n dX11_lines_15 rfl rfl ?_
    refine a_iload_n dX11_lines_16 rfl rfl ?_
    obtain ⟨⟨ga9, gs10⟩, h⟩ := gd_t h
    obtain ⟨v11, M12, e13, h⟩ := bnd2_t h
    obtain ⟨n14, en15, e13⟩ := cal_t e13
    refine e_callV (As := [.int x1]) (st := []) (a := a0) (ci := 11) false dX11_lines_17 mw_X11_isEmpty (Or.inl ⟨rfl, ml_X11_343⟩) im_X11_isEmpty se_X11_isEmpty (by decide) ga9 gs10 rfl (Nat.le_of_ble_eq_true rfl) en15 (s_X11_isEmpty e13) ?_
    refine a_if_eq 26 dX11_lines_20 (by decide) (fun c16 => ?_) (fun c16 => ?_)
    · replace h := ite_t c16 h
      refine a_aload_n dX11_lines_26 rfl rfl ?_
      refine a_iload_n dX11_lines_27 rfl rfl ?_
      obtain ⟨⟨ga17, gs18⟩, h⟩ := gd_t h
      obtain ⟨_, M19, e20, h⟩ := bnd2_t h
      obtain ⟨n21, en22, e20⟩ := cal_t e20
      refine e_callV (As := [.int x1]) (st := []) (a := a0) (ci := 11) false dX11_lines_28 mw_X11_laysLines (Or.inl ⟨rfl, ml_X11_423⟩) im_X11_laysLines se_X11_laysLines (by decide) ga17 gs18 rfl (Nat.le_of_ble_eq_true rfl) en22 (s_X11_laysLines e20) ?_
      refine a_aload_n dX11_lines_31 rfl rfl ?_
      obtain ⟨⟨ga23, gs24⟩, h⟩ := gd_t h
      refine a_get (v := .int (M19.2.2.1 a0 56)) dX11_lines_32 fl_11_414 ga23 gs24 rfl ?_
      exact a_iret dX11_lines_35 rfl (hR _ _ h)
    · replace h := ite_f c16 h
      refine a_bipush (v := -5) dX11_lines_23 (by decide) ?_
      exact a_iret dX11_lines_25 rfl (hR _ _ h)
  · replace h := ite_t c8 h
    refine a_bipush (v := -2) dX11_lines_12 (by decide) ?_
    exact a_iret dX11_lines_14 rfl (hR _ _ h)
noncomputable def b_X11_lines (n : Nat) (a0 : Nat) (x1 : Int32) (M : Mem) : Option (Int32 × Mem) := T_X11_lines_0 (fun v M => some (v, M)) none n a0 x1 M
set_option maxHeartbeats 4000000 in
set_option maxRecDepth 100000 in
theorem sb_X11_lines {X : Nat × (Nat → Int32)} {al : Bool} {n : Nat} {a0 : Nat} {x1 : Int32} {M : Mem} {v : Int32} {M1 : Mem} (h : b_X11_lines n a0 x1 M = some (v, M1)) : AE yX11_lines cX11_lines 2 (some .int) al n X [.ref a0, .int x1] M (some (.int v)) M1 := by
  refine AM.of false (by decide +kernel) (by intro h; cases h) (Nat.le_of_ble_eq_true rfl) ?_
  have h2 : T_X11_lines_0 (fun v2 M2 => some (v2, M2) = some (v, M1)) (none = some (v, M1)) n a0 x1 M := (n_X11_lines_0 (fun o => o = some (v, M1)) (fun v M => some (v, M)) none n a0 x1 M).mp h
  have h3 : ((none : Option (Int32 × Mem)) = some (v, M1)) = False := eq_false (by intro q; cases q)
  rw [h3] at h2
  exact w_X11_lines_0 (fun v2 M2 h => by cases h; exact ⟨rfl, rfl⟩) h2

noncomputable abbrev f_X11_lines := b_X11_lines
theorem s_X11_lines {X : Nat × (Nat → Int32)} {al : Bool} {n : Nat} {a0 : Nat} {x1 : Int32} {M : Mem} {v : Int32} {M1 : Mem} (h : f_X11_lines n a0 x1 M = some (v, M1)) : AE yX11_lines cX11_lines 2 (some .int) al n X [.ref a0, .int x1] M (some (.int v)) M1 := sb_X11_lines h
set_option maxHeartbeats 4000000 in
set_option maxRecDepth 100000 in
noncomputable def T_X4_ruleOf_0.{u} {α : Sort u} (R : Int32 → Mem → α) (N : α) (n : Nat) (a0 : Nat) (x1 : Int32) (M : Mem) : α := gd (fO M a0 4) N (bnd (M.2.2.2.2 a0 1) N (fun r3 => bnd2 (cal n (fun n => f_X10_at n r3 x1 M)) N (fun v5 M6 => R v5 M6)))
set_option maxHeartbeats 4000000 in
set_option maxRecDepth 100000 in
theorem n_X4_ruleOf_0.{u, v} {α : Sort u} {β : Sort v} (h : α → β) (R : Int32 → Mem → α) (N : α) (n : Nat) (a0 : Nat) (x1 : Int32) (M : Mem) : h (T_X4_ruleOf_0 R N n a0 x1 M) = T_X4_ruleOf_0 (fun v M => h (R v M)) (h N) n a0 x1 M := by
  simp only [T_X4_ruleOf_0, nat_ite h, nat_gd h, nat_bnd h, nat_bnd2 h]
set_option maxHeartbeats 4000000 in
set_option maxRecDepth 100000 in
theorem w_X4_ruleOf_0 {X : Nat × (Nat → Int32)} {al : Bool} {n : Nat} {Q : Option Value → Mem → Prop} {R : Int32 → Mem → Prop} (hR : ∀ v M, R v M → Q (some (.int v)) M) {a0 : Nat} {x1 : Int32} {M : Mem} (h : T_X4_ruleOf_0 R False n a0 x1 M) : AW X (RX4, cX4_ruleOf, 2, (some .int), false, al, n) 0 0 0 [(0, .ref a0), (1, .int x1)] [] M Q := by
  unfold T_X4_ruleOf_0 at h
  refine a_aload_n dX4_ruleOf_0 rfl rfl ?_
  obtain ⟨⟨ga1, gs2⟩, h⟩ := gd_t h
  obtain ⟨r3, e4, h⟩ := bnd_t h
  refine a_get (v := .ref r3) dX4_ruleOf_1 fl_4_11 ga1 gs2 (gvR e4 rfl) ?_
  refine a_iload_n dX4_ruleOf_4 rfl rfl ?_
  obtain ⟨v5, M6, e7, h⟩ := bnd2_t h
  obtain ⟨n8, en9, e7⟩ := cal_t e7
  refine e_callS (As := [.ref r3, .int x1]) (st := []) true dX4_ruleOf_5 mw_X10_at (Or.inr ⟨rfl, mn_X4_34⟩) sm_X10_at rfl (Nat.le_of_ble_eq_true rfl) en9 (s_X10_at e7) ?_
  exact a_iret dX4_ruleOf_8 rfl (hR _ _ h)
noncomputable def b_X4_ruleOf (n : Nat) (a0 : Nat) (x1 : Int32) (M : Mem) : Option (Int32 × Mem) := T_X4_ruleOf_0 (fun v M => some (v, M)) none n a0 x1 M
set_option maxHeartbeats 4000000 in
set_option maxRecDepth 100000 in
theorem sb_X4_ruleOf {X : Nat × (Nat → Int32)} {al : Bool} {n : Nat} {a0 : Nat} {x1 : Int32} {M : Mem} {v : Int32} {M1 : Mem} (h : b_X4_ruleOf n a0 x1 M = some (v, M1)) : AE yX4_ruleOf cX4_ruleOf 2 (some .int) al n X [.ref a0, .int x1] M (some (.int v)) M1 := by
  refine AM.of false (by decide +kernel) (by intro h; cases h) (Nat.le_of_ble_eq_true rfl) ?_
  have h2 : T_X4_ruleOf_0 (fun v2 M2 => some (v2, M2) = some (v, M1)) (none = some (v, M1)) n a0 x1 M := (n_X4_ruleOf_0 (fun o => o = some (v, M1)) (fun v M => some (v, M)) none n a0 x1 M).mp h
  have h3 : ((none : Option (Int32 × Mem)) = some (v, M1)) = False := eq_false (by intro q; cases q)
  rw [h3] at h2
  exact w_X4_ruleOf_0 (fun v2 M2 h => by cases h; exact ⟨rfl, rfl⟩) h2

noncomputable abbrev f_X4_ruleOf := b_X4_ruleOf
theorem s_X4_ruleOf {X : Nat × (Nat → Int32)} {al : Bool} {n : Nat} {a0 : Nat} {x1 : Int32} {M : Mem} {v : Int32} {M1 : Mem} (h : f_X4_ruleOf n a0 x1 M = some (v, M1)) : AE yX4_ruleOf cX4_ruleOf 2 (some .int) al n X [.ref a0, .int x1] M (some (.int v)) M1 := sb_X4_ruleOf h
set_option maxHeartbeats 4000000 in
set_option maxRecDepth 100000 in
noncomputable def T_X4_deepOf_0.{u} {α : Sort u} (R : Int32 → Mem → α) (N : α) (n : Nat) (a0 : Nat) (x1 : Int32) (M : Mem) : α := gd (fO M a0 4) N (bnd (M.2.2.2.2 a0 3) N (fun r3 => bnd2 (cal n (fun n => f_X10_at n r3 x1 M)) N (fun v5 M6 => R v5 M6)))
set_option maxHeartbeats 4000000 in
set_option maxRecDepth 100000 in
theorem n_X4_deepOf_0.{u, v} {α : Sort u} {β : Sort v} (h : α → β) (R : Int32 → Mem → α) (N : α) (n : Nat) (a0 : Nat) (x1 : Int32) (M : Mem) : h (T_X4_deepOf_0 R N n a0 x1 M) = T_X4_deepOf_0 (fun v M => h (R v M)) (h N) n a0 x1 M := by
  simp only [T_X4_deepOf_0, nat_ite h, nat_gd h, nat_bnd h, nat_bnd2 h]
set_option maxHeartbeats 4000000 in
set_option maxRecDepth 100000 in
theorem w_X4_deepOf_0 {X : Nat × (Nat → Int32)} {al : Bool} {n : Nat} {Q : Option Value → Mem → Prop} {R : Int32 → Mem → Prop} (hR : ∀ v M, R v M → Q (some (.int v)) M) {a0 : Nat} {x1 : Int32} {M : Mem} (h : T_X4_deepOf_0 R False n a0 x1 M) : AW X (RX4, cX4_deepOf, 2, (some .int), false, al, n) 0 0 0 [(0, .ref a0), (1, .int x1)] [] M Q := by
  unfold T_X4_deepOf_0 at h
  refine a_aload_n dX4_deepOf_0 rfl rfl ?_
  obtain ⟨⟨ga1, gs2⟩, h⟩ := gd_t h
  obtain ⟨r3, e4, h⟩ := bnd_t h
  refine a_get (v := .ref r3) dX4_deepOf_1 fl_4_18 ga1 gs2 (gvR e4 rfl) ?_
  refine a_iload_n dX4_deepOf_4 rfl rfl ?_
  obtain ⟨v5, M6, e7, h⟩ := bnd2_t h
  obtain ⟨n8, en9, e7⟩ := cal_t e7
  refine e_callS (As := [.ref r3, .int x1]) (st := []) true dX4_deepOf_5 mw_X10_at (Or.inr ⟨rfl, mn_X4_34⟩) sm_X10_at rfl (Nat.le_of_ble_eq_true rfl) en9 (s_X10_at e7) ?_
  exact a_iret dX4_deepOf_8 rfl (hR _ _ h)
noncomputable def b_X4_deepOf (n : Nat) (a0 : Nat) (x1 : Int32) (M : Mem) : Option (Int32 × Mem) := T_X4_deepOf_0 (fun v M => some (v, M)) none n a0 x1 M
set_option maxHeartbeats 4000000 in
set_option maxRecDepth 100000 in
theorem sb_X4_deepOf {X : Nat × (Nat → Int32)} {al : Bool} {n : Nat} {a0 : Nat} {x1 : Int32} {M : Mem} {v : Int32} {M1 : Mem} (h : b_X4_deepOf n a0 x1 M = some (v, M1)) : AE yX4_deepOf cX4_deepOf 2 (some .int) al n X [.ref a0, .int x1] M (some (.int v)) M1 := by
  refine AM.of false (by decide +kernel) (by intro h; cases h) (Nat.le_of_ble_eq_true rfl) ?_
  have h2 : T_X4_deepOf_0 (fun v2 M2 => some (v2, M2) = some (v, M1)) (none = some (v, M1)) n a0 x1 M := (n_X4_deepOf_0 (fun o => o = some (v, M1)) (fun v M => some (v, M)) none n a0 x1 M).mp h
  have h3 : ((none : Option (Int32 × Mem)) = some (v, M1)) = False := eq_false (by intro q; cases q)
  rw [h3] at h2
  exact w_X4_deepOf_0 (fun v2 M2 h => by cases h; exact ⟨rfl, rfl⟩) h2

noncomputable abbrev f_X4_deepOf := b_X4_deepOf
theorem s_X4_deepOf {X : Nat × (Nat → Int32)} {al : Bool} {n : Nat} {a0 : Nat} {x1 : Int32} {M : Mem} {v : Int32} {M1 : Mem} (h : f_X4_deepOf n a0 x1 M = some (v, M1)) : AE yX4_deepOf cX4_deepOf 2 (some .int) al n X [.ref a0, .int x1] M (some (.int v)) M1 := sb_X4_deepOf h
set_option maxHeartbeats 4000000 in
set_option maxRecDepth 100000 in
noncomputable def T_X4_fromOf_0.{u} {α : Sort u} (R : Int32 → Mem → α) (N : α) (n : Nat) (a0 : Nat) (x1 : Int32) (x2 : Int32) (M : Mem) : α := if x1 < 0 then R (-1) M else if x2 < 0 then R (-1) M else if x2 < 3 then gd (fO M a0 4) N (bnd (M.2.2.2.2 a0 4) N (fun r6 => bnd2 (cal n (fun n => f_X10_at n r6 ((x1 * 3) + x2) M)) N (fun v8 M9 => R v8 M9))) else R (-1) M
set_option maxHeartbeats 4000000 in
set_option maxRecDepth 100000 in
theorem n_X4_fromOf_0.{u, v} {α : Sort u} {β : Sort v} (h : α → β) (R : Int32 → Mem → α) (N : α) (n : Nat) (a0 : Nat) (x1 : Int32) (x2 : Int32) (M : Mem) : h (T_X4_fromOf_0 R N n a0 x1 x2 M) = T_X4_fromOf_0 (fun v M => h (R v M)) (h N) n a0 x1 x2 M := by
  simp only [T_X4_fromOf_0, nat_ite h, nat_gd h, nat_bnd h, nat_bnd2 h]
set_option maxHeartbeats 4000000 in
set_option maxRecDepth 100000 in
theorem w_X4_fromOf_0 {X : Nat × (Nat → Int32)} {al : Bool} {n : Nat} {Q : Option Value → Mem → Prop} {R : Int32 → Mem → Prop} (hR : ∀ v M, R v M → Q (some (.int v)) M) {a0 : Nat} {x1 : Int32} {x2 : Int32} {M : Mem} (h : T_X4_fromOf_0 R False n a0 x1 x2 M) : AW X (RX4, cX4_fromOf, 3, (some .int), false, al, n) 0 0 0 [(0, .ref a0), (1, .int x1), (2, .int x2)] [] M Q := by
  unfold T_X4_fromOf_0 at h
  refine a_iload_n dX4_fromOf_0 rfl rfl ?_
  refine a_if_lt 13 dX4_fromOf_1 (by decide) (fun c1 => ?_) (fun c1 => ?_)
  · replace h := ite_t c1 h
    refine a_iconst (v := -1) dX4_fromOf_13 (by decide) ?_
    refine a_goto 29 dX4_fromOf_14 (by decide) ?_
    exact a_iret dX4_fromOf_29 rfl (hR _ _ h)
  · replace h := ite_f c1 h
    refine a_iload_n dX4_fromOf_4 rfl rfl ?_
    refine a_if_lt 13 dX4_fromOf_5 (by decide) (fun c2 => ?_) (fun c2 => ?_)
    · replace h := ite_t c2 h
      refine a_iconst (v := -1) dX4_fromOf_13 (by decide) ?_
      refine a_goto 29 dX4_fromOf_14 (by decide) ?_
      exact a_iret dX4_fromOf_29 rfl (hR _ _ h)
    · replace h := ite_f c2 h
      refine a_iload_n dX4_fromOf_8 rfl rfl ?_
      refine a_iconst (v := 3) dX4_fromOf_9 (by decide) ?_
      refine a_icmp_lt 17 dX4_fromOf_10 (by decide) (fun c3 => ?_) (fun c3 => ?_)
      · replace h := ite_t c3 h
        refine a_aload_n dX4_fromOf_17 rfl rfl ?_
        obtain ⟨⟨ga4, gs5⟩, h⟩ := gd_t h
        obtain ⟨r6, e7, h⟩ := bnd_t h
        refine a_get (v := .ref r6) dX4_fromOf_18 fl_4_21 ga4 gs5 (gvR e7 rfl) ?_
        refine a_iload_n dX4_fromOf_21 rfl rfl ?_
        refine a_iconst (v := 3) dX4_fromOf_22 (by decide) ?_
        refine a_imul dX4_fromOf_23 ?_
        refine a_iload_n dX4_fromOf_24 rfl rfl ?_
        refine a_iadd dX4_fromOf_25 ?_
        obtain ⟨v8, M9, e10, h⟩ := bnd2_t h
        obtain ⟨n11, en12, e10⟩ := cal_t e10
        refine e_callS (As := [.ref r6, .int ((x1 * 3) + x2)]) (st := []) true dX4_fromOf_26 mw_X10_at (Or.inr ⟨rfl, mn_X4_34⟩) sm_X10_at rfl (Nat.le_of_ble_eq_true rfl) en12 (s_X10_at e10) ?_
        exact a_iret dX4_fromOf_29 rfl (hR _ _ h)
      · replace h := ite_f c3 h
        refine a_iconst (v := -1) dX4_fromOf_13 (by decide) ?_
        refine a_goto 29 dX4_fromOf_14 (by decide) ?_
        exact a_iret dX4_fromOf_29 rfl (hR _ _ h)
noncomputable def b_X4_fromOf (n : Nat) (a0 : Nat) (x1 : Int32) (x2 : Int32) (M : Mem) : Option (Int32 × Mem) := T_X4_fromOf_0 (fun v M => some (v, M)) none n a0 x1 x2 M
set_option maxHeartbeats 4000000 in
set_option maxRecDepth 100000 in
theorem sb_X4_fromOf {X : Nat × (Nat → Int32)} {al : Bool} {n : Nat} {a0 : Nat} {x1 : Int32} {x2 : Int32} {M : Mem} {v : Int32} {M1 : Mem} (h : b_X4_fromOf n a0 x1 x2 M = some (v, M1)) : AE yX4_fromOf cX4_fromOf 3 (some .int) al n X [.ref a0, .int x1, .int x2] M (some (.int v)) M1 := by
  refine AM.of false (by decide +kernel) (by intro h; cases h) (Nat.le_of_ble_eq_true rfl) ?_
  have h2 : T_X4_fromOf_0 (fun v2 M2 => some (v2, M2) = some (v, M1)) (none = some (v, M1)) n a0 x1 x2 M := (n_X4_fromOf_0 (fun o => o = some (v, M1)) (fun v M => some (v, M)) none n a0 x1 x2 M).mp h
  have h3 : ((none : Option (Int32 × Mem)) = some (v, M1)) = False := eq_false (by intro q; cases q)
  rw [h3] at h2
  exact w_X4_fromOf_0 (fun v2 M2 h => by cases h; exact ⟨rfl, rfl⟩) h2

noncomputable abbrev f_X4_fromOf := b_X4_fromOf
theorem s_X4_fromOf {X : Nat × (Nat → Int32)} {al : Bool} {n : Nat} {a0 : Nat} {x1 : Int32} {x2 : Int32} {M : Mem} {v : Int32} {M1 : Mem} (h : f_X4_fromOf n a0 x1 x2 M = some (v, M1)) : AE yX4_fromOf cX4_fromOf 3 (some .int) al n X [.ref a0, .int x1, .int x2] M (some (.int v)) M1 := sb_X4_fromOf h
set_option maxHeartbeats 4000000 in
set_option maxRecDepth 100000 in
noncomputable def T_X10_line_0.{u} {α : Sort u} (R : Int32 → Mem → α) (N : α) (n : Nat) (a0 : Nat) (x1 : Int32) (x2 : Int32) (x3 : Int32) (M : Mem) : α := gd (fO M a0 10) N (bnd2 (cal n (fun n => f_X10_numberLines n a0 x1 M)) N (fun v3 M4 => if v3 = 0 then if x2 < 0 then R (-2) M4 else gd (fO M4 a0 10) N (bnd (M4.2.2.2.2 a0 10) N (fun r12 => gd (fO M4 r12 4) N (if (M4.2.2.1 r12 7) ≤ x2 then R (-2) M4 else if x3 < 0 then R (-2) M4 else if x3 ≤ 4 then if x3 = 0 then bnd2 (cal n (fun n => f_X4_ruleOf n r12 x2 M4)) N (fun v31 M32 => R v31 M32) else if x3 = 4 then bnd2 (cal n (fun n => f_X4_deepOf n r12 x2 M4)) N (fun v26 M27 => R v26 M27) else bnd2 (cal n (fun n => f_X4_fromOf n r12 x2 (x3 - 1) M4)) N (fun v21 M22 => R v21 M22) else R (-2) M4))) else R v3 M4))
set_option maxHeartbeats 4000000 in
set_option maxRecDepth 100000 in
theorem n_X10_line_0.{u, v} {α : Sort u} {β : Sort v} (h : α → β) (R : Int32 → Mem → α) (N : α) (n : Nat) (a0 : Nat) (x1 : Int32) (x2 : Int32) (x3 : Int32) (M : Mem) : h (T_X10_line_0 R N n a0 x1 x2 x3 M) = T_X10_line_0 (fun v M => h (R v M)) (h N) n a0 x1 x2 x3 M := by
  simp only [T_X10_line_0, nat_ite h, nat_gd h, nat_bnd h, nat_bnd2 h]
set_option maxHeartbeats 4000000 in
set_option maxRecDepth 100000 in
theorem w_X10_line_0 {X : Nat × (Nat → Int32)} {al : Bool} {n : Nat} {Q : Option Value → Mem → Prop} {R : Int32 → Mem → Prop} (hR : ∀ v M, R v M → Q (some (.int v)) M) {a0 : Nat} {x1 : Int32} {x2 : Int32} {x3 : Int32} {M : Mem} (h : T_X10_line_0 R False n a0 x1 x2 x3 M) : AW X (RX10, cX10_line, 5, (some .int), false, al, n) 0 0 0 [(0, .ref a0), (1, .int x1), (2, .int x2), (3, .int x3)] [] M Q := by
  unfold T_X10_line_0 at h
  refine a_aload_n dX10_line_0 rfl rfl ?_
  refine a_iload_n dX10_line_1 rfl rfl ?_
  obtain ⟨⟨ga1, gs2⟩, h⟩ := gd_t h
  obtain ⟨v3, M4, e5, h⟩ := bnd2_t h
  obtain ⟨n6, en7, e5⟩ := cal_t e5
  refine e_callV (As := [.int x1]) (st := []) (a := a0) (ci := 10) false dX10_line_2 mw_X10_numberLines (Or.inl ⟨rfl, ml_X10_282⟩) im_X10_numberLines se_X10_numberLines (by decide) ga1 gs2 rfl (Nat.le_of_ble_eq_true rfl) en7 (s_X10_numberLines e5) ?_
  refine a_istore dX10_line_5 (Nat.le_of_ble_eq_true rfl) (lv2 := [(4, .int v3), (0, .ref a0), (1, .int x1), (2, .int x2), (3, .int x3)]) rfl ?_
  refine a_iload dX10_line_7 rfl ?_
  refine a_if_eq 15 dX10_line_9 (by decide) (fun c8 => ?_) (fun c8 => ?_)
  · replace h := ite_t c8 h
    refine a_iload_n dX10_line_15 rfl rfl ?_
    refine a_if_lt 39 dX10_line_16 (by decide) (fun c9 => ?_) (fun c9 => ?_)
    · replace h := ite_t c9 h
      refine a_bipush (v := -2) dX10_line_39 (by decide) ?_
      exact a_iret dX10_line_41 rfl (hR _ _ h)
    · replace h := ite_f c9 h
      refine a_iload_n dX10_line_19 rfl rfl ?_
      refine a_aload_n dX10_line_20 rfl rfl ?_
      obtain ⟨⟨ga10, gs11⟩, h⟩ := gd_t h
      obtain ⟨r12, e13, h⟩ := bnd_t h
      refine a_get (v := .ref r12) dX10_line_21 fl_10_77 ga10 gs11 (gvR e13 rfl) ?_
      obtain ⟨⟨ga14, gs15⟩, h⟩ := gd_t h
      refine a_getN (v := .int (M4.2.2.1 r12 7)) dX10_line_24 fn_10_285 ga14 gs15 rfl ?_
      refine a_icmp_ge 39 dX10_line_27 (by decide) (fun c16 => ?_) (fun c16 => ?_)
      · replace h := ite_t c16 h
        refine a_bipush (v := -2) dX10_line_39 (by decide) ?_
        exact a_iret dX10_line_41 rfl (hR _ _ h)
      · replace h := ite_f c16 h
        refine a_iload_n dX10_line_30 rfl rfl ?_
        refine a_if_lt 39 dX10_line_31 (by decide) (fun c17 => ?_) (fun c17 => ?_)
        · replace h := ite_t c17 h
          refine a_bipush (v := -2) dX10_line_39 (by decide) ?_
          exact a_iret dX10_line_41 rfl (hR _ _ h)
        · replace h := ite_f c17 h
          refine a_iload_n dX10_line_34 rfl rfl ?_
          refine a_iconst (v := 4) dX10_line_35 (by decide) ?_
          refine a_icmp_le 42 dX10_line_36 (by decide) (fun c18 => ?_) (fun c18 => ?_)
          · replace h := ite_t c18 h
            refine a_iload_n dX10_line_42 rfl rfl ?_
            refine a_if_ne 55 dX10_line_43 (by decide) (fun c19 => ?_) (fun c19 => ?_)
            · replace h := ite_f c19 h
              refine a_iload_n dX10_line_55 rfl rfl ?_
              refine a_iconst (v := 4) dX10_line_56 (by decide) ?_
              refine a_icmp_ne 71 dX10_line_57 (by decide) (fun c20 => ?_) (fun c20 => ?_)
              · replace h := ite_f c20 h
                refine a_aload_n dX10_line_71 rfl rfl ?_
                refine a_get (v := .ref r12) dX10_line_72 fl_10_77 ga10 gs11 (gvR e13 rfl) ?_
                refine a_iload_n dX10_line_75 rfl rfl ?_
                refine a_iload_n dX10_line_76 rfl rfl ?_
                refine a_iconst (v := 1) dX10_line_77 (by decide) ?_
                refine a_isub dX10_line_78 ?_
                obtain ⟨v21, M22, e23, h⟩ := bnd2_t h
                obtain ⟨n24, en25, e23⟩ := cal_t e23
                refine e_callV (As := [.int x2, .int (x3 - 1)]) (st := []) (a := r12) (ci := 4) false dX10_line_79 mw_X4_fromOf (Or.inl ⟨rfl, ml_X10_292⟩) im_X4_fromOf se_X4_fromOf (by decide) ga14 gs15 rfl (Nat.le_of_ble_eq_true rfl) en25 (s_X4_fromOf e23) ?_
                exact a_iret dX10_line_82 rfl (hR _ _ h)
              · replace h := ite_t c20 h
                refine a_aload_n dX10_line_60 rfl rfl ?_
                refine a_get (v := .ref r12) dX10_line_61 fl_10_77 ga10 gs11 (gvR e13 rfl) ?_
                refine a_iload_n dX10_line_64 rfl rfl ?_
                obtain ⟨v26, M27, e28, h⟩ := bnd2_t h
                obtain ⟨n29, en30, e28⟩ := cal_t e28
                refine e_callV (As := [.int x2]) (st := []) (a := r12) (ci := 4) false dX10_line_65 mw_X4_deepOf (Or.inl ⟨rfl, ml_X10_289⟩) im_X4_deepOf se_X4_deepOf (by decide) ga14 gs15 rfl (Nat.le_of_ble_eq_true rfl) en30 (s_X4_deepOf e28) ?_
                refine a_goto 82 dX10_line_68 (by decide) ?_
                exact a_iret dX10_line_82 rfl (hR _ _ h)
            · replace h := ite_t c19 h
              refine a_aload_n dX10_line_46 rfl rfl ?_
              refine a_get (v := .ref r12) dX10_line_47 fl_10_77 ga10 gs11 (gvR e13 rfl) ?_
              refine a_iload_n dX10_line_50 rfl rfl ?_
              obtain ⟨v31, M32, e33, h⟩ := bnd2_t h
              obtain ⟨n34, en35, e33⟩ := cal_t e33
              refine e_callV (As := [.int x2]) (st := []) (a := r12) (ci := 4) false dX10_line_51 mw_X4_ruleOf (Or.inl ⟨rfl, ml_X10_286⟩) im_X4_ruleOf se_X4_ruleOf (by decide) ga14 gs15 rfl (Nat.le_of_ble_eq_true rfl) en35 (s_X4_ruleOf e33) ?_
              exact a_iret dX10_line_54 rfl (hR _ _ h)
          · replace h := ite_f c18 h
            refine a_bipush (v := -2) dX10_line_39 (by decide) ?_
            exact a_iret dX10_line_41 rfl (hR _ _ h)
  · replace h := ite_f c8 h
    refine a_iload dX10_line_12 rfl ?_
    exact a_iret dX10_line_14 rfl (hR _ _ h)
noncomputable def b_X10_line (n : Nat) (a0 : Nat) (x1 : Int32) (x2 : Int32) (x3 : Int32) (M : Mem) : Option (Int32 × Mem) := T_X10_line_0 (fun v M => some (v, M)) none n a0 x1 x2 x3 M
set_option maxHeartbeats 4000000 in
set_option maxRecDepth 100000 in
theorem sb_X10_line {X : Nat × (Nat → Int32)} {al : Bool} {n : Nat} {a0 : Nat} {x1 : Int32} {x2 : Int32} {x3 : Int32} {M : Mem} {v : Int32} {M1 : Mem} (h : b_X10_line n a0 x1 x2 x3 M = some (v, M1)) : AE yX10_line cX10_line 5 (some .int) al n X [.ref a0, .int x1, .int x2, .int x3] M (some (.int v)) M1 := by
  refine AM.of false (by decide +kernel) (by intro h; cases h) (Nat.le_of_ble_eq_true rfl) ?_
  have h2 : T_X10_line_0 (fun v2 M2 => some (v2, M2) = some (v, M1)) (none = some (v, M1)) n a0 x1 x2 x3 M := (n_X10_line_0 (fun o => o = some (v, M1)) (fun v M => some (v, M)) none n a0 x1 x2 x3 M).mp h
  have h3 : ((none : Option (Int32 × Mem)) = some (v, M1)) = False := eq_false (by intro q; cases q)
  rw [h3] at h2
  exact w_X10_line_0 (fun v2 M2 h => by cases h; exact ⟨rfl, rfl⟩) h2

noncomputable abbrev f_X10_line := b_X10_line
theorem s_X10_line {X : Nat × (Nat → Int32)} {al : Bool} {n : Nat} {a0 : Nat} {x1 : Int32} {x2 : Int32} {x3 : Int32} {M : Mem} {v : Int32} {M1 : Mem} (h : f_X10_line n a0 x1 x2 x3 M = some (v, M1)) : AE yX10_line cX10_line 5 (some .int) al n X [.ref a0, .int x1, .int x2, .int x3] M (some (.int v)) M1 := sb_X10_line h
set_option maxHeartbeats 4000000 in
set_option maxRecDepth 100000 in
noncomputable def T_X11_line_0.{u} {α : Sort u} (R : Int32 → Mem → α) (N : α) (n : Nat) (a0 : Nat) (x1 : Int32) (x2 : Int32) (x3 : Int32) (M : Mem) : α := gd (fO M a0 11) N (bnd2 (cal n (fun n => f_X11_isSlot n x1 (wI M a0 0 0))) N (fun v3 M4 => if v3 = 0 then R (-2) M4 else gd (fO M4 a0 11) N (bnd2 (cal n (fun n => f_X11_isEmpty n a0 x1 M4)) N (fun v11 M12 => if v11 = 0 then gd (fO M12 a0 11) N (bnd2 (cal n (fun n => f_X11_laysLines n a0 x1 M12)) N (fun _ M19 => gd (fO M19 a0 11) N (bnd2 (cal n (fun n => f_X11_isIn n (Int32.toInt64 x2) 0 (Int32.toInt64 ((M19.2.2.1 a0 56) - 1)) M19)) N (fun v25 M26 => if v25 = 0 then R (-2) M26 else bnd2 (cal n (fun n => f_X11_isIn n (Int32.toInt64 x3) 0 (4) M26)) N (fun v31 M32 => if v31 = 0 then R (-2) M32 else if x3 = 0 then gd (fO M32 a0 11) N (bnd (M32.2.2.2.2 a0 51) N (fun r57 => gd (fA M32 r57 1 x2) N (R (M32.2.2.1 r57 (x2.toNatClampNeg)) M32))) else if x3 = 4 then gd (fO M32 a0 11) N (bnd (M32.2.2.2.2 a0 54) N (fun r49 => gd (fA M32 r49 1 x2) N (R (M32.2.2.1 r49 (x2.toNatClampNeg)) M32))) else gd (fO M32 a0 11) N (bnd (M32.2.2.2.2 a0 53) N (fun r41 => gd (fA M32 r41 1 (((3 * x2) + x3) - 1)) N (R (M32.2.2.1 r41 ((((3 * x2) + x3) - 1).toNatClampNeg)) M32)))))))) else R (-5) M12))))
set_option maxHeartbeats 4000000 in
set_option maxRecDepth 100000 in
theorem n_X11_line_0.{u, v} {α : Sort u} {β : Sort v} (h : α → β) (R : Int32 → Mem → α) (N : α) (n : Nat) (a0 : Nat) (x1 : Int32) (x2 : Int32) (x3 : Int32) (M : Mem) : h (T_X11_line_0 R N n a0 x1 x2 x3 M) = T_X11_line_0 (fun v M => h (R v M)) (h N) n a0 x1 x2 x3 M := by
  simp only [T_X11_line_0, nat_ite h, nat_gd h, nat_bnd h, nat_bnd2 h]
set_option maxHeartbeats 4000000 in
set_option maxRecDepth 100000 in
theorem w_X11_line_0 {X : Nat × (Nat → Int32)} {al : Bool} {n : Nat} {Q : Option Value → Mem → Prop} {R : Int32 → Mem → Prop} (hR : ∀ v M, R v M → Q (some (.int v)) M) {a0 : Nat} {x1 : Int32} {x2 : Int32} {x3 : Int32} {M : Mem} (h : T_X11_line_0 R False n a0 x1 x2 x3 M) : AW X (RX11, cX11_line, 4, (some .int), false, al, n) 0 0 0 [(0, .ref a0), (1, .int x1), (2, .int x2), (3, .int x3)] [] M Q := by
  unfold T_X11_line_0 at h
  refine a_aload_n dX11_line_0 rfl rfl ?_
  refine a_iconst (v := 0) dX11_line_1 (by decide) ?_
  obtain ⟨⟨ga1, gs2⟩, h⟩ := gd_t h
  refine a_putI dX11_line_2 (Or.inl ⟨fl_11_1, Or.inl rfl⟩) rfl ga1 gs2 rfl rfl ?_
  refine a_iload_n dX11_line_5 rfl rfl ?_
  obtain ⟨v3, M4, e5, h⟩ := bnd2_t h
  obtain ⟨n6, en7, e5⟩ := cal_t e5
  refine e_callS (As := [.int x1]) (st := []) false dX11_line_6 mw_X11_isSlot (Or.inl ⟨rfl, ml_X11_271⟩) sm_X11_isSlot rfl (Nat.le_of_ble_eq_true rfl) en7 (s_X11_isSlot e5) ?_
  refine a_if_ne 15 dX11_line_9 (by decide) (fun c8 => ?_) (fun c8 => ?_)
  · replace h := ite_f c8 h
    refine a_aload_n dX11_line_15 rfl rfl ?_
    refine a_iload_n dX11_line_16 rfl rfl ?_
    obtain ⟨⟨ga9, gs10⟩, h⟩ := gd_t h
    obtain ⟨v11, M12, e13, h⟩ := bnd2_t h
    obtain ⟨n14, en15, e13⟩ := cal_t e13
    refine e_callV (As := [.int x1]) (st := []) (a := a0) (ci := 11) false dX11_line_17 mw_X11_isEmpty (Or.inl ⟨rfl, ml_X11_343⟩) im_X11_isEmpty se_X11_isEmpty (by decide) ga9 gs10 rfl (Nat.le_of_ble_eq_true rfl) en15 (s_X11_isEmpty e13) ?_
    refine a_if_eq 26 dX11_line_20 (by decide) (fun c16 => ?_) (fun c16 => ?_)
    · replace h := ite_t c16 h
      refine a_aload_n dX11_line_26 rfl rfl ?_
      refine a_iload_n dX11_line_27 rfl rfl ?_
      obtain ⟨⟨ga17, gs18⟩, h⟩ := gd_t h
      obtain ⟨_, M19, e20, h⟩ := bnd2_t h
      obtain ⟨n21, en22, e20⟩ := cal_t e20
      refine e_callV (As := [.int x1]) (st := []) (a := a0) (ci := 11) false dX11_line_28 mw_X11_laysLines (Or.inl ⟨rfl, ml_X11_423⟩) im_X11_laysLines se_X11_laysLines (by decide) ga17 gs18 rfl (Nat.le_of_ble_eq_true rfl) en22 (s_X11_laysLines e20) ?_
      refine a_iload_n dX11_line_31 rfl rfl ?_
      refine a_i2l dX11_line_32 ?_
      refine a_lconst (v := 0) dX11_line_33 (by decide) ?_
      refine a_aload_n dX11_line_34 rfl rfl ?_
      obtain ⟨⟨ga23, gs24⟩, h⟩ := gd_t h
      refine a_get (v := .int (M19.2.2.1 a0 56)) dX11_line_35 fl_11_414 ga23 gs24 rfl ?_
      refine a_iconst (v := 1) dX11_line_38 (by decide) ?_
      refine a_isub dX11_line_39 ?_
      refine a_i2l dX11_line_40 ?_
      obtain ⟨v25, M26, e27, h⟩ := bnd2_t h
      obtain ⟨n28, en29, e27⟩ := cal_t e27
      refine e_callS (As := [.long (Int32.toInt64 x2), .long 0, .long (Int32.toInt64 ((M19.2.2.1 a0 56) - 1))]) (st := []) false dX11_line_41 mw_X11_isIn (Or.inl ⟨rfl, ml_X11_180⟩) sm_X11_isIn rfl (Nat.le_of_ble_eq_true rfl) en29 (s_X11_isIn e27) ?_
      refine a_if_eq 59 dX11_line_44 (by decide) (fun c30 => ?_) (fun c30 => ?_)
      · replace h := ite_t c30 h
        refine a_bipush (v := -2) dX11_line_59 (by decide) ?_
        exact a_iret dX11_line_61 rfl (hR _ _ h)
      · replace h := ite_f c30 h
        refine a_iload_n dX11_line_47 rfl rfl ?_
        refine a_i2l dX11_line_48 ?_
        refine a_lconst (v := 0) dX11_line_49 (by decide) ?_
        refine a_ldc2 dX11_line_50 co_X11_219 ?_
        obtain ⟨v31, M32, e33, h⟩ := bnd2_t h
        obtain ⟨n34, en35, e33⟩ := cal_t e33
        refine e_callS (As := [.long (Int32.toInt64 x3), .long 0, .long (4)]) (st := []) false dX11_line_53 mw_X11_isIn (Or.inl ⟨rfl, ml_X11_180⟩) sm_X11_isIn rfl (Nat.le_of_ble_eq_true rfl) en35 (s_X11_isIn e33) ?_
        refine a_if_ne 62 dX11_line_56 (by decide) (fun c36 => ?_) (fun c36 => ?_)
        · replace h := ite_f c36 h
          refine a_iload_n dX11_line_62 rfl rfl ?_
          refine a_if_ne 75 dX11_line_63 (by decide) (fun c37 => ?_) (fun c37 => ?_)
          · replace h := ite_f c37 h
            refine a_iload_n dX11_line_75 rfl rfl ?_
            refine a_iconst (v := 4) dX11_line_76 (by decide) ?_
            refine a_icmp_ne 89 dX11_line_77 (by decide) (fun c38 => ?_) (fun c38 => ?_)
            · replace h := ite_f c38 h
              refine a_aload_n dX11_line_89 rfl rfl ?_
              obtain ⟨⟨ga39, gs40⟩, h⟩ := gd_t h
              obtain ⟨r41, e42, h⟩ := bnd_t h
              refine a_get (v := .ref r41) dX11_line_90 fl_11_108 ga39 gs40 (gvR e42 rfl) ?_
              refine a_iconst (v := 3) dX11_line_93 (by decide) ?_
              refine a_iload_n dX11_line_94 rfl rfl ?_
              refine a_imul dX11_line_95 ?_
              refine a_iload_n dX11_line_96 rfl rfl ?_
              refine a_iadd dX11_line_97 ?_
              refine a_iconst (v := 1) dX11_line_98 (by decide) ?_
              refine a_isub dX11_line_99 ?_
              obtain ⟨⟨ga43, gn44, gs45, gi46⟩, h⟩ := gd_t h
              refine a_iaload dX11_line_100 ga43 gs45 gi46 ?_
              exact a_iret dX11_line_101 rfl (hR _ _ h)
            · replace h := ite_t c38 h
              refine a_aload_n dX11_line_80 rfl rfl ?_
              obtain ⟨⟨ga47, gs48⟩, h⟩ := gd_t h
              obtain ⟨r49, e50, h⟩ := bnd_t h
              refine a_get (v := .ref r49) dX11_line_81 fl_11_111 ga47 gs48 (gvR e50 rfl) ?_
              refine a_iload_n dX11_line_84 rfl rfl ?_
              obtain ⟨⟨ga51, gn52, gs53, gi54⟩, h⟩ := gd_t h
              refine a_iaload dX11_line_85 ga51 gs53 gi54 ?_
              refine a_goto 101 dX11_line_86 (by decide) ?_
              exact a_iret dX11_line_101 rfl (hR _ _ h)
          · replace h := ite_t c37 h
            refine a_aload_n dX11_line_66 rfl rfl ?_
            obtain ⟨⟨ga55, gs56⟩, h⟩ := gd_t h
            obtain ⟨r57, e58, h⟩ := bnd_t h
            refine a_get (v := .ref r57) dX11_line_67 fl_11_102 ga55 gs56 (gvR e58 rfl) ?_
            refine a_iload_n dX11_line_70 rfl rfl ?_
            obtain ⟨⟨ga59, gn60, gs61, gi62⟩, h⟩ := gd_t h
            refine a_iaload dX11_line_71 ga59 gs61 gi62 ?_
            refine a_goto 101 dX11_line_72 (by decide) ?_
            exact a_iret dX11_line_101 rfl (hR _ _ h)
        · replace h := ite_t c36 h
          refine a_bipush (v := -2) dX11_line_59 (by decide) ?_
          exact a_iret dX11_line_61 rfl (hR _ _ h)
    · replace h := ite_f c16 h
      refine a_bipush (v := -5) dX11_line_23 (by decide) ?_
      exact a_iret dX11_line_25 rfl (hR _ _ h)
  · replace h := ite_t c8 h
    refine a_bipush (v := -2) dX11_line_12 (by decide) ?_
    exact a_iret dX11_line_14 rfl (hR _ _ h)
noncomputable def b_X11_line (n : Nat) (a0 : Nat) (x1 : Int32) (x2 : Int32) (x3 : Int32) (M : Mem) : Option (Int32 × Mem) := T_X11_line_0 (fun v M => some (v, M)) none n a0 x1 x2 x3 M
set_option maxHeartbeats 4000000 in
set_option maxRecDepth 100000 in
theorem sb_X11_line {X : Nat × (Nat → Int32)} {al : Bool} {n : Nat} {a0 : Nat} {x1 : Int32} {x2 : Int32} {x3 : Int32} {M : Mem} {v : Int32} {M1 : Mem} (h : b_X11_line n a0 x1 x2 x3 M = some (v, M1)) : AE yX11_line cX11_line 4 (some .int) al n X [.ref a0, .int x1, .int x2, .int x3] M (some (.int v)) M1 := by
  refine AM.of false (by decide +kernel) (by intro h; cases h) (Nat.le_of_ble_eq_true rfl) ?_
  have h2 : T_X11_line_0 (fun v2 M2 => some (v2, M2) = some (v, M1)) (none = some (v, M1)) n a0 x1 x2 x3 M := (n_X11_line_0 (fun o => o = some (v, M1)) (fun v M => some (v, M)) none n a0 x1 x2 x3 M).mp h
  have h3 : ((none : Option (Int32 × Mem)) = some (v, M1)) = False := eq_false (by intro q; cases q)
  rw [h3] at h2
  exact w_X11_line_0 (fun v2 M2 h => by cases h; exact ⟨rfl, rfl⟩) h2

noncomputable abbrev f_X11_line := b_X11_line
theorem s_X11_line {X : Nat × (Nat → Int32)} {al : Bool} {n : Nat} {a0 : Nat} {x1 : Int32} {x2 : Int32} {x3 : Int32} {M : Mem} {v : Int32} {M1 : Mem} (h : f_X11_line n a0 x1 x2 x3 M = some (v, M1)) : AE yX11_line cX11_line 4 (some .int) al n X [.ref a0, .int x1, .int x2, .int x3] M (some (.int v)) M1 := sb_X11_line h
set_option maxHeartbeats 4000000 in
set_option maxRecDepth 100000 in
noncomputable def T_X4_formulaOf_0.{u} {α : Sort u} (R : Int32 → Mem → α) (N : α) (n : Nat) (a0 : Nat) (x1 : Int32) (M : Mem) : α := gd (fO M a0 4) N (bnd (M.2.2.2.2 a0 2) N (fun r3 => bnd2 (cal n (fun n => f_X10_at n r3 x1 M)) N (fun v5 M6 => R v5 M6)))
set_option maxHeartbeats 4000000 in
set_option maxRecDepth 100000 in
theorem n_X4_formulaOf_0.{u, v} {α : Sort u} {β : Sort v} (h : α → β) (R : Int32 → Mem → α) (N : α) (n : Nat) (a0 : Nat) (x1 : Int32) (M : Mem) : h (T_X4_formulaOf_0 R N n a0 x1 M) = T_X4_formulaOf_0 (fun v M => h (R v M)) (h N) n a0 x1 M := by
  simp only [T_X4_formulaOf_0, nat_ite h, nat_gd h, nat_bnd h, nat_bnd2 h]
set_option maxHeartbeats 4000000 in
set_option maxRecDepth 100000 in
theorem w_X4_formulaOf_0 {X : Nat × (Nat → Int32)} {al : Bool} {n : Nat} {Q : Option Value → Mem → Prop} {R : Int32 → Mem → Prop} (hR : ∀ v M, R v M → Q (some (.int v)) M) {a0 : Nat} {x1 : Int32} {M : Mem} (h : T_X4_formulaOf_0 R False n a0 x1 M) : AW X (RX4, cX4_formulaOf, 2, (some .int), false, al, n) 0 0 0 [(0, .ref a0), (1, .int x1)] [] M Q := by
  unfold T_X4_formulaOf_0 at h
  refine a_aload_n dX4_formulaOf_0 rfl rfl ?_
  obtain ⟨⟨ga1, gs2⟩, h⟩ := gd_t h
  obtain ⟨r3, e4, h⟩ := bnd_t h
  refine a_get (v := .ref r3) dX4_formulaOf_1 fl_4_15 ga1 gs2 (gvR e4 rfl) ?_
  refine a_iload_n dX4_formulaOf_4 rfl rfl ?_
  obtain ⟨v5, M6, e7, h⟩ := bnd2_t h
  obtain ⟨n8, en9, e7⟩ := cal_t e7
  refine e_callS (As := [.ref r3, .int x1]) (st := []) true dX4_formulaOf_5 mw_X10_at (Or.inr ⟨rfl, mn_X4_34⟩) sm_X10_at rfl (Nat.le_of_ble_eq_true rfl) en9 (s_X10_at e7) ?_
  exact a_iret dX4_formulaOf_8 rfl (hR _ _ h)
noncomputable def b_X4_formulaOf (n : Nat) (a0 : Nat) (x1 : Int32) (M : Mem) : Option (Int32 × Mem) := T_X4_formulaOf_0 (fun v M => some (v, M)) none n a0 x1 M
set_option maxHeartbeats 4000000 in
set_option maxRecDepth 100000 in
theorem sb_X4_formulaOf {X : Nat × (Nat → Int32)} {al : Bool} {n : Nat} {a0 : Nat} {x1 : Int32} {M : Mem} {v : Int32} {M1 : Mem} (h : b_X4_formulaOf n a0 x1 M = some (v, M1)) : AE yX4_formulaOf cX4_formulaOf 2 (some .int) al n X [.ref a0, .int x1] M (some (.int v)) M1 := by
  refine AM.of false (by decide +kernel) (by intro h; cases h) (Nat.le_of_ble_eq_true rfl) ?_
  have h2 : T_X4_formulaOf_0 (fun v2 M2 => some (v2, M2) = some (v, M1)) (none = some (v, M1)) n a0 x1 M := (n_X4_formulaOf_0 (fun o => o = some (v, M1)) (fun v M => some (v, M)) none n a0 x1 M).mp h
  have h3 : ((none : Option (Int32 × Mem)) = some (v, M1)) = False := eq_false (by intro q; cases q)
  rw [h3] at h2
  exact w_X4_formulaOf_0 (fun v2 M2 h => by cases h; exact ⟨rfl, rfl⟩) h2

noncomputable abbrev f_X4_formulaOf := b_X4_formulaOf
theorem s_X4_formulaOf {X : Nat × (Nat → Int32)} {al : Bool} {n : Nat} {a0 : Nat} {x1 : Int32} {M : Mem} {v : Int32} {M1 : Mem} (h : f_X4_formulaOf n a0 x1 M = some (v, M1)) : AE yX4_formulaOf cX4_formulaOf 2 (some .int) al n X [.ref a0, .int x1] M (some (.int v)) M1 := sb_X4_formulaOf h
set_option maxHeartbeats 4000000 in
set_option maxRecDepth 100000 in
noncomputable def T_X10_lineByte_0.{u} {α : Sort u} (R : Int32 → Mem → α) (N : α) (n : Nat) (a0 : Nat) (x1 : Int32) (x2 : Int32) (x3 : Int32) (M : Mem) : α := gd (fO M a0 10) N (bnd2 (cal n (fun n => f_X10_numberLines n a0 x1 M)) N (fun v3 M4 => if v3 = 0 then if x2 < 0 then R (-2) M4 else gd (fO M4 a0 10) N (bnd (M4.2.2.2.2 a0 10) N (fun r12 => gd (fO M4 r12 4) N (if x2 < (M4.2.2.1 r12 7) then if 0 ≤ x3 then bnd (M4.2.2.2.2 a0 2) N (fun r18 => bnd2 (cal n (fun n => f_X4_formulaOf n r12 x2 M4)) N (fun v20 M21 => gd (fO M21 r18 1) N (bnd2 (cal n (fun n => f_X1_byteAt n r18 v20 (Int32.toInt64 x3) M21)) N (fun v27 M28 => R v27 M28)))) else R (-3) M4 else R (-2) M4))) else R v3 M4))
set_option maxHeartbeats 4000000 in
set_option maxRecDepth 100000 in
theorem n_X10_lineByte_0.{u, v} {α : Sort u} {β : Sort v} (h : α → β) (R : Int32 → Mem → α) (N : α) (n : Nat) (a0 : Nat) (x1 : Int32) (x2 : Int32) (x3 : Int32) (M : Mem) : h (T_X10_lineByte_0 R N n a0 x1 x2 x3 M) = T_X10_lineByte_0 (fun v M => h (R v M)) (h N) n a0 x1 x2 x3 M := by
  simp only [T_X10_lineByte_0, nat_ite h, nat_gd h, nat_bnd h, nat_bnd2 h]
set_option maxHeartbeats 4000000 in
set_option maxRecDepth 100000 in
theorem w_X10_lineByte_0 {X : Nat × (Nat → Int32)} {al : Bool} {n : Nat} {Q : Option Value → Mem → Prop} {R : Int32 → Mem → Prop} (hR : ∀ v M, R v M → Q (some (.int v)) M) {a0 : Nat} {x1 : Int32} {x2 : Int32} {x3 : Int32} {M : Mem} (h : T_X10_lineByte_0 R False n a0 x1 x2 x3 M) : AW X (RX10, cX10_lineByte, 5, (some .int), false, al, n) 0 0 0 [(0, .ref a0), (1, .int x1), (2, .int x2), (3, .int x3)] [] M Q := by
  unfold T_X10_lineByte_0 at h
  refine a_aload_n dX10_lineByte_0 rfl rfl ?_
  refine a_iload_n dX10_lineByte_1 rfl rfl ?_
  obtain ⟨⟨ga1, gs2⟩, h⟩ := gd_t h
  obtain ⟨v3, M4, e5, h⟩ := bnd2_t h
  obtain ⟨n6, en7, e5⟩ := cal_t e5
  refine e_callV (As := [.int x1]) (st := []) (a := a0) (ci := 10) false dX10_lineByte_2 mw_X10_numberLines (Or.inl ⟨rfl, ml_X10_282⟩) im_X10_numberLines se_X10_numberLines (by decide) ga1 gs2 rfl (Nat.le_of_ble_eq_true rfl) en7 (s_X10_numberLines e5) ?_
  refine a_istore dX10_lineByte_5 (Nat.le_of_ble_eq_true rfl) (lv2 := [(4, .int v3), (0, .ref a0), (1, .int x1), (2, .int x2), (3, .int x3)]) rfl ?_
  refine a_iload dX10_lineByte_7 rfl ?_
  refine a_if_eq 15 dX10_lineByte_9 (by decide) (fun c8 => ?_) (fun c8 => ?_)
  · replace h := ite_t c8 h
    refine a_iload_n dX10_lineByte_15 rfl rfl ?_
    refine a_if_lt 30 dX10_lineByte_16 (by decide) (fun c9 => ?_) (fun c9 => ?_)
    · replace h := ite_t c9 h
      refine a_bipush (v := -2) dX10_lineByte_30 (by decide) ?_
      exact a_iret dX10_lineByte_32 rfl (hR _ _ h)
    · replace h := ite_f c9 h
      refine a_iload_n dX10_lineByte_19 rfl rfl ?_
      refine a_aload_n dX10_lineByte_20 rfl rfl ?_
      obtain ⟨⟨ga10, gs11⟩, h⟩ := gd_t h
      obtain ⟨r12, e13, h⟩ := bnd_t h
      refine a_get (v := .ref r12) dX10_lineByte_21 fl_10_77 ga10 gs11 (gvR e13 rfl) ?_
      obtain ⟨⟨ga14, gs15⟩, h⟩ := gd_t h
      refine a_getN (v := .int (M4.2.2.1 r12 7)) dX10_lineByte_24 fn_10_285 ga14 gs15 rfl ?_
      refine a_icmp_lt 33 dX10_lineByte_27 (by decide) (fun c16 => ?_) (fun c16 => ?_)
      · replace h := ite_t c16 h
        refine a_iload_n dX10_lineByte_33 rfl rfl ?_
        refine a_if_ge 42 dX10_lineByte_34 (by decide) (fun c17 => ?_) (fun c17 => ?_)
        · replace h := ite_t c17 h
          refine a_aload_n dX10_lineByte_42 rfl rfl ?_
          obtain ⟨r18, e19, h⟩ := bnd_t h
          refine a_get (v := .ref r18) dX10_lineByte_43 fl_10_16 ga10 gs11 (gvR e19 rfl) ?_
          refine a_aload_n dX10_lineByte_46 rfl rfl ?_
          refine a_get (v := .ref r12) dX10_lineByte_47 fl_10_77 ga10 gs11 (gvR e13 rfl) ?_
          refine a_iload_n dX10_lineByte_50 rfl rfl ?_
          obtain ⟨v20, M21, e22, h⟩ := bnd2_t h
          obtain ⟨n23, en24, e22⟩ := cal_t e22
          refine e_callV (As := [.int x2]) (st := [.ref r18]) (a := r12) (ci := 4) false dX10_lineByte_51 mw_X4_formulaOf (Or.inl ⟨rfl, ml_X10_295⟩) im_X4_formulaOf se_X4_formulaOf (by decide) ga14 gs15 rfl (Nat.le_of_ble_eq_true rfl) en24 (s_X4_formulaOf e22) ?_
          refine a_iload_n dX10_lineByte_54 rfl rfl ?_
          refine a_i2l dX10_lineByte_55 ?_
          obtain ⟨⟨ga25, gs26⟩, h⟩ := gd_t h
          obtain ⟨v27, M28, e29, h⟩ := bnd2_t h
          obtain ⟨n30, en31, e29⟩ := cal_t e29
          refine e_callV (As := [.int v20, .long (Int32.toInt64 x3)]) (st := []) (a := r18) (ci := 1) false dX10_lineByte_56 mw_X1_byteAt (Or.inl ⟨rfl, ml_X10_193⟩) im_X1_byteAt se_X1_byteAt (by decide) ga25 gs26 rfl (Nat.le_of_ble_eq_true rfl) en31 (s_X1_byteAt e29) ?_
          exact a_iret dX10_lineByte_59 rfl (hR _ _ h)
        · replace h := ite_f c17 h
          refine a_bipush (v := -3) dX10_lineByte_37 (by decide) ?_
          refine a_goto 59 dX10_lineByte_39 (by decide) ?_
          exact a_iret dX10_lineByte_59 rfl (hR _ _ h)
      · replace h := ite_f c16 h
        refine a_bipush (v := -2) dX10_lineByte_30 (by decide) ?_
        exact a_iret dX10_lineByte_32 rfl (hR _ _ h)
  · replace h := ite_f c8 h
    refine a_iload dX10_lineByte_12 rfl ?_
    exact a_iret dX10_lineByte_14 rfl (hR _ _ h)
noncomputable def b_X10_lineByte (n : Nat) (a0 : Nat) (x1 : Int32) (x2 : Int32) (x3 : Int32) (M : Mem) : Option (Int32 × Mem) := T_X10_lineByte_0 (fun v M => some (v, M)) none n a0 x1 x2 x3 M
set_option maxHeartbeats 4000000 in
set_option maxRecDepth 100000 in
theorem sb_X10_lineByte {X : Nat × (Nat → Int32)} {al : Bool} {n : Nat} {a0 : Nat} {x1 : Int32} {x2 : Int32} {x3 : Int32} {M : Mem} {v : Int32} {M1 : Mem} (h : b_X10_lineByte n a0 x1 x2 x3 M = some (v, M1)) : AE yX10_lineByte cX10_lineByte 5 (some .int) al n X [.ref a0, .int x1, .int x2, .int x3] M (some (.int v)) M1 := by
  refine AM.of false (by decide +kernel) (by intro h; cases h) (Nat.le_of_ble_eq_true rfl) ?_
  have h2 : T_X10_lineByte_0 (fun v2 M2 => some (v2, M2) = some (v, M1)) (none = some (v, M1)) n a0 x1 x2 x3 M := (n_X10_lineByte_0 (fun o => o = some (v, M1)) (fun v M => some (v, M)) none n a0 x1 x2 x3 M).mp h
  have h3 : ((none : Option (Int32 × Mem)) = some (v, M1)) = False := eq_false (by intro q; cases q)
  rw [h3] at h2
  exact w_X10_lineByte_0 (fun v2 M2 h => by cases h; exact ⟨rfl, rfl⟩) h2

noncomputable abbrev f_X10_lineByte := b_X10_lineByte
theorem s_X10_lineByte {X : Nat × (Nat → Int32)} {al : Bool} {n : Nat} {a0 : Nat} {x1 : Int32} {x2 : Int32} {x3 : Int32} {M : Mem} {v : Int32} {M1 : Mem} (h : f_X10_lineByte n a0 x1 x2 x3 M = some (v, M1)) : AE yX10_lineByte cX10_lineByte 5 (some .int) al n X [.ref a0, .int x1, .int x2, .int x3] M (some (.int v)) M1 := sb_X10_lineByte h
set_option maxHeartbeats 4000000 in
set_option maxRecDepth 100000 in
noncomputable def T_X11_lineByte_0.{u} {α : Sort u} (R : Int32 → Mem → α) (N : α) (n : Nat) (a0 : Nat) (x1 : Int32) (x2 : Int32) (x3 : Int32) (M : Mem) : α := gd (fO M a0 11) N (bnd2 (cal n (fun n => f_X11_isSlot n x1 (wI M a0 0 0))) N (fun v3 M4 => if v3 = 0 then R (-2) M4 else gd (fO M4 a0 11) N (bnd2 (cal n (fun n => f_X11_isEmpty n a0 x1 M4)) N (fun v11 M12 => if v11 = 0 then gd (fO M12 a0 11) N (bnd2 (cal n (fun n => f_X11_laysLines n a0 x1 M12)) N (fun _ M19 => gd (fO M19 a0 11) N (bnd2 (cal n (fun n => f_X11_isIn n (Int32.toInt64 x2) 0 (Int32.toInt64 ((M19.2.2.1 a0 56) - 1)) M19)) N (fun v25 M26 => if v25 = 0 then R (-2) M26 else if 0 ≤ x3 then gd (fO M26 a0 11) N (bnd2 (cal n (fun n => f_X11_begins0 n a0 x3 M26)) N (fun _ M34 => gd (fO M34 a0 11) N (bnd (M34.2.2.2.2 a0 52) N (fun r40 => gd (fA M34 r40 1 x2) N (bnd2 (cal n (fun n => f_X11_tellsFormula n a0 (M34.2.2.1 r40 (x2.toNatClampNeg)) M34)) N (fun _ M46 => gd (fO M46 a0 11) N (R (M46.2.2.1 a0 50) M46))))))) else R (-3) M26)))) else R (-5) M12))))
set_option maxHeartbeats 4000000 in
set_option maxRecDepth 100000 in
theorem n_X11_lineByte_0.{u, v} {α : Sort u} {β : Sort v} (h : α → β) (R : Int32 → Mem → α) (N : α) (n : Nat) (a0 : Nat) (x1 : Int32) (x2 : Int32) (x3 : Int32) (M : Mem) : h (T_X11_lineByte_0 R N n a0 x1 x2 x3 M) = T_X11_lineByte_0 (fun v M => h (R v M)) (h N) n a0 x1 x2 x3 M := by
  simp only [T_X11_lineByte_0, nat_ite h, nat_gd h, nat_bnd h, nat_bnd2 h]
set_option maxHeartbeats 4000000 in
set_option maxRecDepth 100000 in
theorem w_X11_lineByte_0 {X : Nat × (Nat → Int32)} {al : Bool} {n : Nat} {Q : Option Value → Mem → Prop} {R : Int32 → Mem → Prop} (hR : ∀ v M, R v M → Q (some (.int v)) M) {a0 : Nat} {x1 : Int32} {x2 : Int32} {x3 : Int32} {M : Mem} (h : T_X11_lineByte_0 R False n a0 x1 x2 x3 M) : AW X (RX11, cX11_lineByte, 4, (some .int), false, al, n) 0 0 0 [(0, .ref a0), (1, .int x1), (2, .int x2), (3, .int x3)] [] M Q := by
  unfold T_X11_lineByte_0 at h
  refine a_aload_n dX11_lineByte_0 rfl rfl ?_
  refine a_iconst (v := 0) dX11_lineByte_1 (by decide) ?_
  obtain ⟨⟨ga1, gs2⟩, h⟩ := gd_t h
  refine a_putI dX11_lineByte_2 (Or.inl ⟨fl_11_1, Or.inl rfl⟩) rfl ga1 gs2 rfl rfl ?_
  refine a_iload_n dX11_lineByte_5 rfl rfl ?_
  obtain ⟨v3, M4, e5, h⟩ := bnd2_t h
  obtain ⟨n6, en7, e5⟩ := cal_t e5
  refine e_callS (As := [.int x1]) (st := []) false dX11_lineByte_6 mw_X11_isSlot (Or.inl ⟨rfl, ml_X11_271⟩) sm_X11_isSlot rfl (Nat.le_of_ble_eq_true rfl) en7 (s_X11_isSlot e5) ?_
  refine a_if_ne 15 dX11_lineByte_9 (by decide) (fun c8 => ?_) (fun c8 => ?_)
  · replace h := ite_f c8 h
    refine a_aload_n dX11_lineByte_15 rfl rfl ?_
    refine a_iload_n dX11_lineByte_16 rfl rfl ?_
    obtain ⟨⟨ga9, gs10⟩, h⟩ := gd_t h
    obtain ⟨v11, M12, e13, h⟩ := bnd2_t h
    obtain ⟨n14, en15, e13⟩ := cal_t e13
    refine e_callV (As := [.int x1]) (st := []) (a := a0) (ci := 11) false dX11_lineByte_17 mw_X11_isEmpty (Or.inl ⟨rfl, ml_X11_343⟩) im_X11_isEmpty se_X11_isEmpty (by decide) ga9 gs10 rfl (Nat.le_of_ble_eq_true rfl) en15 (s_X11_isEmpty e13) ?_
    refine a_if_eq 26 dX11_lineByte_20 (by decide) (fun c16 => ?_) (fun c16 => ?_)
    · replace h := ite_t c16 h
      refine a_aload_n dX11_lineByte_26 rfl rfl ?_
      refine a_iload_n dX11_lineByte_27 rfl rfl ?_
      obtain ⟨⟨ga17, gs18⟩, h⟩ := gd_t h
      obtain ⟨_, M19, e20, h⟩ := bnd2_t h
      obtain ⟨n21, en22, e20⟩ := cal_t e20
      refine e_callV (As := [.int x1]) (st := []) (a := a0) (ci := 11) false dX11_lineByte_28 mw_X11_laysLines (Or.inl ⟨rfl, ml_X11_423⟩) im_X11_laysLines se_X11_laysLines (by decide) ga17 gs18 rfl (Nat.le_of_ble_eq_true rfl) en22 (s_X11_laysLines e20) ?_
      refine a_iload_n dX11_lineByte_31 rfl rfl ?_
      refine a_i2l dX11_lineByte_32 ?_
      refine a_lconst (v := 0) dX11_lineByte_33 (by decide) ?_
      refine a_aload_n dX11_lineByte_34 rfl rfl ?_
      obtain ⟨⟨ga23, gs24⟩, h⟩ := gd_t h
      refine a_get (v := .int (M19.2.2.1 a0 56)) dX11_lineByte_35 fl_11_414 ga23 gs24 rfl ?_
      refine a_iconst (v := 1) dX11_lineByte_38 (by decide) ?_
      refine a_isub dX11_lineByte_39 ?_
      refine a_i2l dX11_lineByte_40 ?_
      obtain ⟨v25, M26, e27, h⟩ := bnd2_t h
      obtain ⟨n28, en29, e27⟩ := cal_t e27
      refine e_callS (As := [.long (Int32.toInt64 x2), .long 0, .long (Int32.toInt64 ((M19.2.2.1 a0 56) - 1))]) (st := []) false dX11_lineByte_41 mw_X11_isIn (Or.inl ⟨rfl, ml_X11_180⟩) sm_X11_isIn rfl (Nat.le_of_ble_eq_true rfl) en29 (s_X11_isIn e27) ?_
      refine a_if_ne 50 dX11_lineByte_44 (by decide) (fun c30 => ?_) (fun c30 => ?_)
      · replace h := ite_f c30 h
        refine a_iload_n dX11_lineByte_50 rfl rfl ?_
        refine a_if_ge 57 dX11_lineByte_51 (by decide) (fun c31 => ?_) (fun c31 => ?_)
        · replace h := ite_t c31 h
          refine a_aload_n dX11_lineByte_57 rfl rfl ?_
          refine a_iload_n dX11_lineByte_58 rfl rfl ?_
          obtain ⟨⟨ga32, gs33⟩, h⟩ := gd_t h
          obtain ⟨_, M34, e35, h⟩ := bnd2_t h
          obtain ⟨n36, en37, e35⟩ := cal_t e35
          refine e_callV (As := [.int x3]) (st := []) (a := a0) (ci := 11) false dX11_lineByte_59 mw_X11_begins0 (Or.inl ⟨rfl, ml_X11_389⟩) im_X11_begins0 se_X11_begins0 (by decide) ga32 gs33 rfl (Nat.le_of_ble_eq_true rfl) en37 (s_X11_begins0 e35) ?_
          refine a_aload_n dX11_lineByte_62 rfl rfl ?_
          refine a_aload_n dX11_lineByte_63 rfl rfl ?_
          obtain ⟨⟨ga38, gs39⟩, h⟩ := gd_t h
          obtain ⟨r40, e41, h⟩ := bnd_t h
          refine a_get (v := .ref r40) dX11_lineByte_64 fl_11_105 ga38 gs39 (gvR e41 rfl) ?_
          refine a_iload_n dX11_lineByte_67 rfl rfl ?_
          obtain ⟨⟨ga42, gn43, gs44, gi45⟩, h⟩ := gd_t h
          refine a_iaload dX11_lineByte_68 ga42 gs44 gi45 ?_
          obtain ⟨_, M46, e47, h⟩ := bnd2_t h
          obtain ⟨n48, en49, e47⟩ := cal_t e47
          refine e_callV (As := [.int (M34.2.2.1 r40 (x2.toNatClampNeg))]) (st := []) (a := a0) (ci := 11) false dX11_lineByte_69 mw_X11_tellsFormula (Or.inl ⟨rfl, ml_X11_376⟩) im_X11_tellsFormula se_X11_tellsFormula (by decide) ga38 gs39 rfl (Nat.le_of_ble_eq_true rfl) en49 (s_X11_tellsFormula e47) ?_
          refine a_aload_n dX11_lineByte_72 rfl rfl ?_
          obtain ⟨⟨ga50, gs51⟩, h⟩ := gd_t h
          refine a_get (v := .int (M46.2.2.1 a0 50)) dX11_lineByte_73 fl_11_367 ga50 gs51 rfl ?_
          exact a_iret dX11_lineByte_76 rfl (hR _ _ h)
        · replace h := ite_f c31 h
          refine a_bipush (v := -3) dX11_lineByte_54 (by decide) ?_
          exact a_iret dX11_lineByte_56 rfl (hR _ _ h)
      · replace h := ite_t c30 h
        refine a_bipush (v := -2) dX11_lineByte_47 (by decide) ?_
        exact a_iret dX11_lineByte_49 rfl (hR _ _ h)
    · replace h := ite_f c16 h
      refine a_bipush (v := -5) dX11_lineByte_23 (by decide) ?_
      exact a_iret dX11_lineByte_25 rfl (hR _ _ h)
  · replace h := ite_t c8 h
    refine a_bipush (v := -2) dX11_lineByte_12 (by decide) ?_
    exact a_iret dX11_lineByte_14 rfl (hR _ _ h)
noncomputable def b_X11_lineByte (n : Nat) (a0 : Nat) (x1 : Int32) (x2 : Int32) (x3 : Int32) (M : Mem) : Option (Int32 × Mem) := T_X11_lineByte_0 (fun v M => some (v, M)) none n a0 x1 x2 x3 M
set_option maxHeartbeats 4000000 in
set_option maxRecDepth 100000 in
theorem sb_X11_lineByte {X : Nat × (Nat → Int32)} {al : Bool} {n : Nat} {a0 : Nat} {x1 : Int32} {x2 : Int32} {x3 : Int32} {M : Mem} {v : Int32} {M1 : Mem} (h : b_X11_lineByte n a0 x1 x2 x3 M = some (v, M1)) : AE yX11_lineByte cX11_lineByte 4 (some .int) al n X [.ref a0, .int x1, .int x2, .int x3] M (some (.int v)) M1 := by
  refine AM.of false (by decide +kernel) (by intro h; cases h) (Nat.le_of_ble_eq_true rfl) ?_
  have h2 : T_X11_lineByte_0 (fun v2 M2 => some (v2, M2) = some (v, M1)) (none = some (v, M1)) n a0 x1 x2 x3 M := (n_X11_lineByte_0 (fun o => o = some (v, M1)) (fun v M => some (v, M)) none n a0 x1 x2 x3 M).mp h
  have h3 : ((none : Option (Int32 × Mem)) = some (v, M1)) = False := eq_false (by intro q; cases q)
  rw [h3] at h2
  exact w_X11_lineByte_0 (fun v2 M2 h => by cases h; exact ⟨rfl, rfl⟩) h2

noncomputable abbrev f_X11_lineByte := b_X11_lineByte
theorem s_X11_lineByte {X : Nat × (Nat → Int32)} {al : Bool} {n : Nat} {a0 : Nat} {x1 : Int32} {x2 : Int32} {x3 : Int32} {M : Mem} {v : Int32} {M1 : Mem} (h : f_X11_lineByte n a0 x1 x2 x3 M = some (v, M1)) : AE yX11_lineByte cX11_lineByte 4 (some .int) al n X [.ref a0, .int x1, .int x2, .int x3] M (some (.int v)) M1 := sb_X11_lineByte h
