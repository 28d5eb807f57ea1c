/-! METHODS AS FUNCTIONS, written by wip/gen/shallow.py -/
def ix_X10_putBytes (c : Nat) : List Nat := if c = 0 then [0, 1] else if c = 3 then [0, 1, 2] else []
def PW_X10_putBytes (X : Nat × (Nat → Int32)) (al : Bool) (n : Nat) (Q : Option Value → Mem → Prop) (c : Nat) (l : List Value) (M : Mem) : Prop := AW X (RX10, cX10_putBytes, 3, none, false, al, n) 0 0 c (List.zip (ix_X10_putBytes c) l) (l.drop (ix_X10_putBytes c).length) M Q
set_option maxHeartbeats 4000000 in
set_option maxRecDepth 100000 in
noncomputable def T_X10_putBytes_0.{u} {α : Sort u} (J : Nat → List Value → Mem → α) (R : Unit → Mem → α) (N : α) (n : Nat) (a0 : Nat) (x1 : Int32) (M : Mem) : α := J 3 [.ref a0, .int x1, .int 24] M
set_option maxHeartbeats 4000000 in
set_option maxRecDepth 100000 in
theorem n_X10_putBytes_0.{u, v} {α : Sort u} {β : Sort v} (h : α → β) (J : Nat → List Value → Mem → α) (R : Unit → Mem → α) (N : α) (n : Nat) (a0 : Nat) (x1 : Int32) (M : Mem) : h (T_X10_putBytes_0 J R N n a0 x1 M) = T_X10_putBytes_0 (fun c l M => h (J c l M)) (fun v M => h (R v M)) (h N) n a0 x1 M := by
  simp only [T_X10_putBytes_0, nat_ite h, nat_gd h, nat_bnd h, nat_bnd2 h]
set_option maxHeartbeats 4000000 in
set_option maxRecDepth 100000 in
theorem w_X10_putBytes_0 {X : Nat × (Nat → Int32)} {al : Bool} {n : Nat} {Q : Option Value → Mem → Prop} {J : Nat → List Value → Mem → Prop} (hJ : ∀ c l M, J c l M → PW_X10_putBytes X al n Q c l M) {R : Unit → Mem → Prop} (hR : ∀ v M, R v M → Q none M) {a0 : Nat} {x1 : Int32} {M : Mem} (h : T_X10_putBytes_0 J R False n a0 x1 M) : AW X (RX10, cX10_putBytes, 3, none, false, al, n) 0 0 0 [(0, .ref a0), (1, .int x1)] [] M Q := by
  unfold T_X10_putBytes_0 at h
  refine a_bipush (v := 24) dX10_putBytes_0 (by decide) ?_
  refine a_istore_n dX10_putBytes_2 rfl (Nat.le_of_ble_eq_true rfl) (lv2 := [(2, .int 24), (0, .ref a0), (1, .int x1)]) rfl ?_
  exact a_lv (lv2 := [(0, .ref a0), (1, .int x1), (2, .int 24)]) (fa_cons rfl (fa_cons rfl (fa_cons rfl fa_nil))) (hJ _ _ _ h)
set_option maxHeartbeats 4000000 in
set_option maxRecDepth 100000 in
noncomputable def T_X10_putBytes_3.{u} {α : Sort u} (J : Nat → List Value → Mem → α) (R : Unit → Mem → α) (N : α) (n : Nat) (a0 : Nat) (x1 : Int32) (x2 : Int32) (M : Mem) : α := if x2 < 0 then R () M else gd (fO M a0 10) N (if 600 ≤ (M.2.2.1 a0 1) then R () M else bnd (M.2.2.2.2 a0 0) N (fun r5 => gd (fA M r5 1 (M.2.2.1 a0 1)) N (J 3 [.ref a0, .int x1, .int (x2 + (-8))] (wI (wI M r5 ((M.2.2.1 a0 1).toNatClampNeg) ((iushr x1 x2) &&& 255)) a0 1 (((wI M r5 ((M.2.2.1 a0 1).toNatClampNeg) ((iushr x1 x2) &&& 255)).2.2.1 a0 1) + 1)))))
set_option maxHeartbeats 4000000 in
set_option maxRecDepth 100000 in
theorem n_X10_putBytes_3.{u, v} {α : Sort u} {β : Sort v} (h : α → β) (J : Nat → List Value → Mem → α) (R : Unit → Mem → α) (N : α) (n : Nat) (a0 : Nat) (x1 : Int32) (x2 : Int32) (M : Mem) : h (T_X10_putBytes_3 J R N n a0 x1 x2 M) = T_X10_putBytes_3 (fun c l M => h (J c l M)) (fun v M => h (R v M)) (h N) n a0 x1 x2 M := by
  simp only [T_X10_putBytes_3, nat_ite h, nat_gd h, nat_bnd h, nat_bnd2 h]
set_option maxHeartbeats 4000000 in
set_option maxRecDepth 100000 in
theorem w_X10_putBytes_3 {X : Nat × (Nat → Int32)} {al : Bool} {n : Nat} {Q : Option Value → Mem → Prop} {J : Nat → List Value → Mem → Prop} (hJ : ∀ c l M, J c l M → PW_X10_putBytes X al n Q c l M) {R : Unit → Mem → Prop} (hR : ∀ v M, R v M → Q none M) {a0 : Nat} {x1 : Int32} {x2 : Int32} {M : Mem} (h : T_X10_putBytes_3 J R False n a0 x1 x2 M) : AW X (RX10, cX10_putBytes, 3, none, false, al, n) 0 0 3 [(0, .ref a0), (1, .int x1), (2, .int x2)] [] M Q := by
  unfold T_X10_putBytes_3 at h
  refine a_iload_n dX10_putBytes_3 rfl rfl ?_
  refine a_if_lt 49 dX10_putBytes_4 (by decide) (fun c1 => ?_) (fun c1 => ?_)
  · replace h := ite_t c1 h
    exact a_vret dX10_putBytes_49 rfl (hR _ _ h)
  · replace h := ite_f c1 h
    refine a_aload_n dX10_putBytes_7 rfl rfl ?_
    obtain ⟨⟨ga2, gs3⟩, h⟩ := gd_t h
    refine a_get (v := .int (M.2.2.1 a0 1)) dX10_putBytes_8 fl_10_112 ga2 gs3 rfl ?_
    refine a_sipush (v := 600) dX10_putBytes_11 (by decide) ?_
    refine a_icmp_ge 49 dX10_putBytes_14 (by decide) (fun c4 => ?_) (fun c4 => ?_)
    · replace h := ite_t c4 h
      exact a_vret dX10_putBytes_49 rfl (hR _ _ h)
    · replace h := ite_f c4 h
      refine a_aload_n dX10_putBytes_17 rfl rfl ?_
      obtain ⟨r5, e6, h⟩ := bnd_t h
      refine a_get (v := .ref r5) dX10_putBytes_18 fl_10_9 ga2 gs3 (gvR e6 rfl) ?_
      refine a_aload_n dX10_putBytes_21 rfl rfl ?_
      refine a_get (v := .int (M.2.2.1 a0 1)) dX10_putBytes_22 fl_10_112 ga2 gs3 rfl ?_
      refine a_iload_n dX10_putBytes_25 rfl rfl ?_
      refine a_iload_n dX10_putBytes_26 rfl rfl ?_
      refine a_iushr dX10_putBytes_27 ?_
      refine a_sipush (v := 255) dX10_putBytes_28 (by decide) ?_
      refine a_iand dX10_putBytes_31 ?_
      obtain ⟨⟨ga7, gn8, gs9, gi10⟩, h⟩ := gd_t h
      refine a_iastore dX10_putBytes_32 ga7 gs9 gi10 ?_
      refine a_aload_n dX10_putBytes_33 rfl rfl ?_
      refine a_dup dX10_putBytes_34 rfl ?_
      refine a_get (v := .int ((wI M r5 ((M.2.2.1 a0 1).toNatClampNeg) ((iushr x1 x2) &&& 255)).2.2.1 a0 1)) dX10_putBytes_35 fl_10_112 ga2 gs3 rfl ?_
      refine a_iconst (v := 1) dX10_putBytes_38 (by decide) ?_
      refine a_iadd dX10_putBytes_39 ?_
      refine a_putI dX10_putBytes_40 (Or.inl ⟨fl_10_112, Or.inl rfl⟩) rfl ga2 gs3 rfl rfl ?_
      refine a_iinc (v := (x2 + (-8))) dX10_putBytes_43 rfl (by first | rfl | decide) (Nat.le_of_ble_eq_true rfl) (lv2 := [(2, .int (x2 + (-8))), (0, .ref a0), (1, .int x1)]) rfl ?_
      refine a_goto 3 dX10_putBytes_46 (by decide) ?_
      exact a_lv (lv2 := [(0, .ref a0), (1, .int x1), (2, .int (x2 + (-8)))]) (fa_cons rfl (fa_cons rfl (fa_cons rfl fa_nil))) (hJ _ _ _ h)
set_option maxHeartbeats 4000000 in
set_option maxRecDepth 100000 in
noncomputable def st_X10_putBytes (n : Nat) (s : Sg) : Option (Sg ⊕ (Unit × Mem)) := if s.1 = 0 then vR s.2.1 none (fun a0 t => vI t none (fun x1 t => vE t none (T_X10_putBytes_0 (fun c l M => some (.inl (c, l, M))) (fun v M => some (.inr (v, M))) none n a0 x1 s.2.2))) else if s.1 = 3 then vR s.2.1 none (fun a0 t => vI t none (fun x1 t => vI t none (fun x2 t => vE t none (T_X10_putBytes_3 (fun c l M => some (.inl (c, l, M))) (fun v M => some (.inr (v, M))) none n a0 x1 x2 s.2.2)))) else none
noncomputable abbrev g_X10_putBytes_0 (n : Nat) (a0 : Nat) (x1 : Int32) (M : Mem) : Option (Unit × Mem) := lp (st_X10_putBytes n) (0, [.ref a0, .int x1], M)
set_option maxHeartbeats 4000000 in
set_option maxRecDepth 100000 in
theorem ge_X10_putBytes_0 (n : Nat) (a0 : Nat) (x1 : Int32) (M : Mem) : g_X10_putBytes_0 n a0 x1 M = T_X10_putBytes_0 (fun c l M => lp (st_X10_putBytes n) (c, l, M)) (fun v M => some (v, M)) none n a0 x1 M := (lp_eq _ _).trans (n_X10_putBytes_0 (lpK (st_X10_putBytes n)) (fun c l M => some (.inl (c, l, M))) (fun v M => some (.inr (v, M))) none n a0 x1 M)
noncomputable abbrev g_X10_putBytes_3 (n : Nat) (a0 : Nat) (x1 : Int32) (x2 : Int32) (M : Mem) : Option (Unit × Mem) := lp (st_X10_putBytes n) (3, [.ref a0, .int x1, .int x2], M)
set_option maxHeartbeats 4000000 in
set_option maxRecDepth 100000 in
theorem ge_X10_putBytes_3 (n : Nat) (a0 : Nat) (x1 : Int32) (x2 : Int32) (M : Mem) : g_X10_putBytes_3 n a0 x1 x2 M = T_X10_putBytes_3 (fun c l M => lp (st_X10_putBytes n) (c, l, M)) (fun v M => some (v, M)) none n a0 x1 x2 M := (lp_eq _ _).trans (n_X10_putBytes_3 (lpK (st_X10_putBytes n)) (fun c l M => some (.inl (c, l, M))) (fun v M => some (.inr (v, M))) none n a0 x1 x2 M)
noncomputable def b_X10_putBytes (n : Nat) (a0 : Nat) (x1 : Int32) (M : Mem) : Option (Unit × Mem) := g_X10_putBytes_0 n a0 x1 M
set_option maxHeartbeats 4000000 in
set_option maxRecDepth 100000 in
theorem sb_X10_putBytes {X : Nat × (Nat → Int32)} {al : Bool} {n : Nat} {a0 : Nat} {x1 : Int32} {M : Mem} {v : Unit} {M1 : Mem} (h : b_X10_putBytes n a0 x1 M = some (v, M1)) : AE yX10_putBytes cX10_putBytes 3 none al n X [.ref a0, .int x1] M none M1 := by
  refine AM.of false (by decide +kernel) (by intro h; cases h) (Nat.le_of_ble_eq_true rfl) ?_
  refine lp_snd (P := fun s r => PW_X10_putBytes X al n (fun v M2 => v = none ∧ M2 = r.2) s.1 s.2.1 s.2.2) ?_ h
  clear h
  rintro ⟨c, l, M⟩ r h
  unfold st_X10_putBytes at h
  rcases ite_p h with ⟨e, h⟩ | ⟨e, h⟩
  · replace e : c = 0 := e
    subst e
    obtain ⟨a0, tt0, e, h⟩ := vR_p id h
    replace e : l = _ := e
    subst e
    obtain ⟨x1, tt1, e, h⟩ := vI_p id h
    replace e : tt0 = _ := e
    subst e
    obtain ⟨e, h⟩ := vE_p id h
    replace e : tt1 = [] := e
    subst e
    exact w_X10_putBytes_0 (J := fun c l M => PW_X10_putBytes X al n (fun v M2 => v = none ∧ M2 = r.2) c l M) (R := fun v M => (v, M) = r) (fun _ _ _ h => h) (fun v M h => by cases h; exact ⟨rfl, rfl⟩) ((n_X10_putBytes_0 (lpP (fun (s : Sg) (r : Unit × Mem) => PW_X10_putBytes X al n (fun v M2 => v = none ∧ M2 = r.2) s.1 s.2.1 s.2.2) r) (fun c l M => some (.inl (c, l, M))) (fun v M => some (.inr (v, M))) none n a0 x1 M).mp h)
  rcases ite_p h with ⟨e, h⟩ | ⟨e, h⟩
  · replace e : c = 3 := e
    subst e
    obtain ⟨a0, tt0, e, h⟩ := vR_p id h
    replace e : l = _ := e
    subst e
    obtain ⟨x1, tt1, e, h⟩ := vI_p id h
    replace e : tt0 = _ := e
    subst e
    obtain ⟨x2, tt2, e, h⟩ := vI_p id h
    replace e : tt1 = _ := e
    subst e
    obtain ⟨e, h⟩ := vE_p id h
    replace e : tt2 = [] := e
    subst e
    exact w_X10_putBytes_3 (J := fun c l M => PW_X10_putBytes X al n (fun v M2 => v = none ∧ M2 = r.2) c l M) (R := fun v M => (v, M) = r) (fun _ _ _ h => h) (fun v M h => by cases h; exact ⟨rfl, rfl⟩) ((n_X10_putBytes_3 (lpP (fun (s : Sg) (r : Unit × Mem) => PW_X10_putBytes X al n (fun v M2 => v = none ∧ M2 = r.2) s.1 s.2.1 s.2.2) r) (fun c l M => some (.inl (c, l, M))) (fun v M => some (.inr (v, M))) none n a0 x1 x2 M).mp h)
  · exact h.elim

noncomputable abbrev f_X10_putBytes := b_X10_putBytes
theorem s_X10_putBytes {X : Nat × (Nat → Int32)} {al : Bool} {n : Nat} {a0 : Nat} {x1 : Int32} {M : Mem} {v : Unit} {M1 : Mem} (h : f_X10_putBytes n a0 x1 M = some (v, M1)) : AE yX10_putBytes cX10_putBytes 3 none al n X [.ref a0, .int x1] M none M1 := sb_X10_putBytes h
set_option maxHeartbeats 4000000 in
set_option maxRecDepth 100000 in
noncomputable def T_X10_feed_0.{u} {α : Sort u} (R : Int32 → Mem → α) (N : α) (n : Nat) (a0 : Nat) (x1 : Int32) (x2 : Int32) (x3 : Int32) (x4 : Int32) (x5 : Int32) (M : Mem) : α := gd (fO M a0 10) N (if ((M.2.2.1 a0 1) + 20) ≤ 600 then bnd2 (cal n (fun n => f_X10_putBytes n a0 x1 M)) N (fun _ M4 => gd (fO M4 a0 10) N (bnd2 (cal n (fun n => f_X10_putBytes n a0 x2 M4)) N (fun _ M10 => gd (fO M10 a0 10) N (bnd2 (cal n (fun n => f_X10_putBytes n a0 x3 M10)) N (fun _ M16 => gd (fO M16 a0 10) N (bnd2 (cal n (fun n => f_X10_putBytes n a0 x4 M16)) N (fun _ M22 => gd (fO M22 a0 10) N (bnd2 (cal n (fun n => f_X10_putBytes n a0 x5 M22)) N (fun _ M28 => gd (fO M28 a0 10) N (R (M28.2.2.1 a0 1) M28)))))))))) else R (-4) M)
set_option maxHeartbeats 4000000 in
set_option maxRecDepth 100000 in
theorem n_X10_feed_0.{u, v} {α : Sort u} {β : Sort v} (h : α → β) (R : Int32 → Mem → α) (N : α) (n : Nat) (a0 : Nat) (x1 : Int32) (x2 : Int32) (x3 : Int32) (x4 : Int32) (x5 : Int32) (M : Mem) : h (T_X10_feed_0 R N n a0 x1 x2 x3 x4 x5 M) = T_X10_feed_0 (fun v M => h (R v M)) (h N) n a0 x1 x2 x3 x4 x5 M := by
  simp only [T_X10_feed_0, nat_ite h, nat_gd h, nat_bnd h, nat_bnd2 h]
set_option maxHeartbeats 4000000 in
set_option maxRecDepth 100000 in
theorem w_X10_feed_0 {X : Nat × (Nat → Int32)} {al : Bool} {n : Nat} {Q : Option Value → Mem → Prop} {R : Int32 → Mem → Prop} (hR : ∀ v M, R v M → Q (some (.int v)) M) {a0 : Nat} {x1 : Int32} {x2 : Int32} {x3 : Int32} {x4 : Int32} {x5 : Int32} {M : Mem} (h : T_X10_feed_0 R False n a0 x1 x2 x3 x4 x5 M) : AW X (RX10, cX10_feed, 6, (some .int), false, al, n) 0 0 0 [(0, .ref a0), (1, .int x1), (2, .int x2), (3, .int x3), (4, .int x4), (5, .int x5)] [] M Q := by
  unfold T_X10_feed_0 at h
  refine a_aload_n dX10_feed_0 rfl rfl ?_
  obtain ⟨⟨ga1, gs2⟩, h⟩ := gd_t h
  refine a_get (v := .int (M.2.2.1 a0 1)) dX10_feed_1 fl_10_112 ga1 gs2 rfl ?_
  refine a_bipush (v := 20) dX10_feed_4 (by decide) ?_
  refine a_iadd dX10_feed_6 ?_
  refine a_sipush (v := 600) dX10_feed_7 (by decide) ?_
  refine a_icmp_le 16 dX10_feed_10 (by decide) (fun c3 => ?_) (fun c3 => ?_)
  · replace h := ite_t c3 h
    refine a_aload_n dX10_feed_16 rfl rfl ?_
    refine a_iload_n dX10_feed_17 rfl rfl ?_
    obtain ⟨_, M4, e5, h⟩ := bnd2_t h
    obtain ⟨n6, en7, e5⟩ := cal_t e5
    refine e_callV (As := [.int x1]) (st := []) (a := a0) (ci := 10) false dX10_feed_18 mw_X10_putBytes (Or.inl ⟨rfl, ml_X10_115⟩) im_X10_putBytes se_X10_putBytes (by decide) ga1 gs2 rfl (Nat.le_of_ble_eq_true rfl) en7 (s_X10_putBytes e5) ?_
    refine a_aload_n dX10_feed_21 rfl rfl ?_
    refine a_iload_n dX10_feed_22 rfl rfl ?_
    obtain ⟨⟨ga8, gs9⟩, h⟩ := gd_t h
    obtain ⟨_, M10, e11, h⟩ := bnd2_t h
    obtain ⟨n12, en13, e11⟩ := cal_t e11
    refine e_callV (As := [.int x2]) (st := []) (a := a0) (ci := 10) false dX10_feed_23 mw_X10_putBytes (Or.inl ⟨rfl, ml_X10_115⟩) im_X10_putBytes se_X10_putBytes (by decide) ga8 gs9 rfl (Nat.le_of_ble_eq_true rfl) en13 (s_X10_putBytes e11) ?_
    refine a_aload_n dX10_feed_26 rfl rfl ?_
    refine a_iload_n dX10_feed_27 rfl rfl ?_
    obtain ⟨⟨ga14, gs15⟩, h⟩ := gd_t h
    obtain ⟨_, M16, e17, h⟩ := bnd2_t h
    obtain ⟨n18, en19, e17⟩ := cal_t e17
    refine e_callV (As := [.int x3]) (st := []) (a := a0) (ci := 10) false dX10_feed_28 mw_X10_putBytes (Or.inl ⟨rfl, ml_X10_115⟩) im_X10_putBytes se_X10_putBytes (by decide) ga14 gs15 rfl (Nat.le_of_ble_eq_true rfl) en19 (s_X10_putBytes e17) ?_
    refine a_aload_n dX10_feed_31 rfl rfl ?_
    refine a_iload dX10_feed_32 rfl ?_
    obtain ⟨⟨ga20, gs21⟩, h⟩ := gd_t h
    obtain ⟨_, M22, e23, h⟩ := bnd2_t h
    obtain ⟨n24, en25, e23⟩ := cal_t e23
    refine e_callV (As := [.int x4]) (st := []) (a := a0) (ci := 10) false dX10_feed_34 mw_X10_putBytes (Or.inl ⟨rfl, ml_X10_115⟩) im_X10_putBytes se_X10_putBytes (by decide) ga20 gs21 rfl (Nat.le_of_ble_eq_true rfl) en25 (s_X10_putBytes e23) ?_
    refine a_aload_n dX10_feed_37 rfl rfl ?_
    refine a_iload dX10_feed_38 rfl ?_
    obtain ⟨⟨ga26, gs27⟩, h⟩ := gd_t h
    obtain ⟨_, M28, e29, h⟩ := bnd2_t h
    obtain ⟨n30, en31, e29⟩ := cal_t e29
    refine e_callV (As := [.int x5]) (st := []) (a := a0) (ci := 10) false dX10_feed_40 mw_X10_putBytes (Or.inl ⟨rfl, ml_X10_115⟩) im_X10_putBytes se_X10_putBytes (by decide) ga26 gs27 rfl (Nat.le_of_ble_eq_true rfl) en31 (s_X10_putBytes e29) ?_
    refine a_aload_n dX10_feed_43 rfl rfl ?_
    obtain ⟨⟨ga32, gs33⟩, h⟩ := gd_t h
    refine a_get (v := .int (M28.2.2.1 a0 1)) dX10_feed_44 fl_10_112 ga32 gs33 rfl ?_
    exact a_iret dX10_feed_47 rfl (hR _ _ h)
  · replace h := ite_f c3 h
    refine a_bipush (v := -4) dX10_feed_13 (by decide) ?_
    exact a_iret dX10_feed_15 rfl (hR _ _ h)
noncomputable def b_X10_feed (n : Nat) (a0 : Nat) (x1 : Int32) (x2 : Int32) (x3 : Int32) (x4 : Int32) (x5 : Int32) (M : Mem) : Option (Int32 × Mem) := T_X10_feed_0 (fun v M => some (v, M)) none n a0 x1 x2 x3 x4 x5 M
set_option maxHeartbeats 4000000 in
set_option maxRecDepth 100000 in
theorem sb_X10_feed {X : Nat × (Nat → Int32)} {al : Bool} {n : Nat} {a0 : Nat} {x1 : Int32} {x2 : Int32} {x3 : Int32} {x4 : Int32} {x5 : Int32} {M : Mem} {v : Int32} {M1 : Mem} (h : b_X10_feed n a0 x1 x2 x3 x4 x5 M = some (v, M1)) : AE yX10_feed cX10_feed 6 (some .int) al n X [.ref a0, .int x1, .int x2, .int x3, .int x4, .int x5] M (some (.int v)) M1 := by
  refine AM.of false (by decide +kernel) (by intro h; cases h) (Nat.le_of_ble_eq_true rfl) ?_
  have h2 : T_X10_feed_0 (fun v2 M2 => some (v2, M2) = some (v, M1)) (none = some (v, M1)) n a0 x1 x2 x3 x4 x5 M := (n_X10_feed_0 (fun o => o = some (v, M1)) (fun v M => some (v, M)) none n a0 x1 x2 x3 x4 x5 M).mp h
  have h3 : ((none : Option (Int32 × Mem)) = some (v, M1)) = False := eq_false (by intro q; cases q)
  rw [h3] at h2
  exact w_X10_feed_0 (fun v2 M2 h => by cases h; exact ⟨rfl, rfl⟩) h2

noncomputable abbrev f_X10_feed := b_X10_feed
theorem s_X10_feed {X : Nat × (Nat → Int32)} {al : Bool} {n : Nat} {a0 : Nat} {x1 : Int32} {x2 : Int32} {x3 : Int32} {x4 : Int32} {x5 : Int32} {M : Mem} {v : Int32} {M1 : Mem} (h : f_X10_feed n a0 x1 x2 x3 x4 x5 M = some (v, M1)) : AE yX10_feed cX10_feed 6 (some .int) al n X [.ref a0, .int x1, .int x2, .int x3, .int x4, .int x5] M (some (.int v)) M1 := sb_X10_feed h
def ix_X11_feed (c : Nat) : List Nat := if c = 0 then [0, 1, 2, 3, 4, 5] else if c = 24 then [0, 1, 2, 3, 4, 5, 6] else if c = 77 then [0, 1, 2, 3, 4, 5, 6] else []
def PW_X11_feed (X : Nat × (Nat → Int32)) (al : Bool) (n : Nat) (Q : Option Value → Mem → Prop) (c : Nat) (l : List Value) (M : Mem) : Prop := AW X (RX11, cX11_feed, 8, (some .int), false, al, n) 0 0 c (List.zip (ix_X11_feed c) l) (l.drop (ix_X11_feed c).length) M Q
set_option maxHeartbeats 4000000 in
set_option maxRecDepth 100000 in
noncomputable def T_X11_feed_0.{u} {α : Sort u} (J : Nat → List Value → Mem → α) (R : Int32 → Mem → α) (N : α) (n : Nat) (a0 : Nat) (x1 : Int32) (x2 : Int32) (x3 : Int32) (x4 : Int32) (x5 : Int32) (M : Mem) : α := gd (fO M a0 11) N (if (((wI M a0 0 0).2.2.1 a0 27) + 20) ≤ 600 then J 24 [.ref a0, .int x1, .int x2, .int x3, .int x4, .int x5, .int 0] (wI M a0 0 0) else R (-4) (wI M a0 0 0))
set_option maxHeartbeats 4000000 in
set_option maxRecDepth 100000 in
theorem n_X11_feed_0.{u, v} {α : Sort u} {β : Sort v} (h : α → β) (J : Nat → List Value → Mem → α) (R : Int32 → Mem → α) (N : α) (n : Nat) (a0 : Nat) (x1 : Int32) (x2 : Int32) (x3 : Int32) (x4 : Int32) (x5 : Int32) (M : Mem) : h (T_X11_feed_0 J R N n a0 x1 x2 x3 x4 x5 M) = T_X11_feed_0 (fun c l M => h (J c l M)) (fun v M => h (R v M)) (h N) n a0 x1 x2 x3 x4 x5 M := by
  simp only [T_X11_feed_0, nat_ite h, nat_gd h, nat_bnd h, nat_bnd2 h]
set_option maxHeartbeats 4000000 in
set_option maxRecDepth 100000 in
theorem w_X11_feed_0 {X : Nat × (Nat → Int32)} {al : Bool} {n : Nat} {Q : Option Value → Mem → Prop} {J : Nat → List Value → Mem → Prop} (hJ : ∀ c l M, J c l M → PW_X11_feed X al n Q c l M) {R : Int32 → Mem → Prop} (hR : ∀ v M, R v M → Q (some (.int v)) M) {a0 : Nat} {x1 : Int32} {x2 : Int32} {x3 : Int32} {x4 : Int32} {x5 : Int32} {M : Mem} (h : T_X11_feed_0 J R False n a0 x1 x2 x3 x4 x5 M) : AW X (RX11, cX11_feed, 8, (some .int), false, al, n) 0 0 0 [(0, .ref a0), (1, .int x1), (2, .int x2), (3, .int x3), (4, .int x4), (5, .int x5)] [] M Q := by
  unfold T_X11_feed_0 at h
  refine a_aload_n dX11_feed_0 rfl rfl ?_
  refine a_iconst (v := 0) dX11_feed_1 (by decide) ?_
  obtain ⟨⟨ga1, gs2⟩, h⟩ := gd_t h
  refine a_putI dX11_feed_2 (Or.inl ⟨fl_11_1, Or.inl rfl⟩) rfl ga1 gs2 rfl rfl ?_
  refine a_aload_n dX11_feed_5 rfl rfl ?_
  refine a_get (v := .int ((wI M a0 0 0).2.2.1 a0 27)) dX11_feed_6 fl_11_154 ga1 gs2 rfl ?_
  refine a_bipush (v := 20) dX11_feed_9 (by decide) ?_
  refine a_iadd dX11_feed_11 ?_
  refine a_sipush (v := 600) dX11_feed_12 (by decide) ?_
  refine a_icmp_le 21 dX11_feed_15 (by decide) (fun c3 => ?_) (fun c3 => ?_)
  · replace h := ite_t c3 h
    refine a_iconst (v := 0) dX11_feed_21 (by decide) ?_
    refine a_istore dX11_feed_22 (Nat.le_of_ble_eq_true rfl) (lv2 := [(6, .int 0), (0, .ref a0), (1, .int x1), (2, .int x2), (3, .int x3), (4, .int x4), (5, .int x5)]) rfl ?_
    exact a_lv (lv2 := [(0, .ref a0), (1, .int x1), (2, .int x2), (3, .int x3), (4, .int x4), (5, .int x5), (6, .int 0)]) (fa_cons rfl (fa_cons rfl (fa_cons rfl (fa_cons rfl (fa_cons rfl (fa_cons rfl (fa_cons rfl fa_nil))))))) (hJ _ _ _ h)
  · replace h := ite_f c3 h
    refine a_bipush (v := -4) dX11_feed_18 (by decide) ?_
    exact a_iret dX11_feed_20 rfl (hR _ _ h)
set_option maxHeartbeats 4000000 in
set_option maxRecDepth 100000 in
noncomputable def T_X11_feed_24.{u} {α : Sort u} (J : Nat → List Value → Mem → α) (R : Int32 → Mem → α) (N : α) (n : Nat) (a0 : Nat) (x1 : Int32) (x2 : Int32) (x3 : Int32) (x4 : Int32) (x5 : Int32) (x6 : Int32) (M : Mem) : α := if 20 ≤ x6 then gd (fO M a0 11) N (R (M.2.2.1 a0 27) M) else if 4 ≤ x6 then if 8 ≤ x6 then if 12 ≤ x6 then if 16 ≤ x6 then J 77 [.ref a0, .int x1, .int x2, .int x3, .int x4, .int x5, .int x6, .int x5] M else J 77 [.ref a0, .int x1, .int x2, .int x3, .int x4, .int x5, .int x6, .int x4] M else J 77 [.ref a0, .int x1, .int x2, .int x3, .int x4, .int x5, .int x6, .int x3] M else J 77 [.ref a0, .int x1, .int x2, .int x3, .int x4, .int x5, .int x6, .int x2] M else J 77 [.ref a0, .int x1, .int x2, .int x3, .int x4, .int x5, .int x6, .int x1] M
set_option maxHeartbeats 4000000 in
set_option maxRecDepth 100000 in
theorem n_X11_feed_24.{u, v} {α : Sort u} {β : Sort v} (h : α → β) (J : Nat → List Value → Mem → α) (R : Int32 → Mem → α) (N : α) (n : Nat) (a0 : Nat) (x1 : Int32) (x2 : Int32) (x3 : Int32) (x4 : Int32) (x5 : Int32) (x6 : Int32) (M : Mem) : h (T_X11_feed_24 J R N n a0 x1 x2 x3 x4 x5 x6 M) = T_X11_feed_24 (fun c l M => h (J c l M)) (fun v M => h (R v M)) (h N) n a0 x1 x2 x3 x4 x5 x6 M := by
  simp only [T_X11_feed_24, nat_ite h, nat_gd h, nat_bnd h, nat_bnd2 h]
set_option maxHeartbeats 4000000 in
set_option maxRecDepth 100000 in
theorem w_X11_feed_24 {X : Nat × (Nat → Int32)} {al : Bool} {n : Nat} {Q : Option Value → Mem → Prop} {J : Nat → List Value → Mem → Prop} (hJ : ∀ c l M, J c l M → PW_X11_feed X al n Q c l M) {R : Int32 → Mem → Prop} (hR : ∀ v M, R v M → Q (some (.int v)) M) {a0 : Nat} {x1 : Int32} {x2 : Int32} {x3 : Int32} {x4 : Int32} {x5 : Int32} {x6 : Int32} {M : Mem} (h : T_X11_feed_24 J R False n a0 x1 x2 x3 x4 x5 x6 M) : AW X (RX11, cX11_feed, 8, (some .int), false, al, n) 0 0 24 [(0, .ref a0), (1, .int x1), (2, .int x2), (3, .int x3), (4, .int x4), (5, .int x5), (6, .int x6)] [] M Q := by
  unfold T_X11_feed_24 at h
  refine a_iload dX11_feed_24 rfl ?_
  refine a_bipush (v := 20) dX11_feed_26 (by decide) ?_
  refine a_icmp_ge 118 dX11_feed_28 (by decide) (fun c1 => ?_) (fun c1 => ?_)
  · replace h := ite_t c1 h
    refine a_aload_n dX11_feed_118 rfl rfl ?_
    obtain ⟨⟨ga2, gs3⟩, h⟩ := gd_t h
    refine a_get (v := .int (M.2.2.1 a0 27)) dX11_feed_119 fl_11_154 ga2 gs3 rfl ?_
    exact a_iret dX11_feed_122 rfl (hR _ _ h)
  · replace h := ite_f c1 h
    refine a_iload dX11_feed_31 rfl ?_
    refine a_iconst (v := 4) dX11_feed_33 (by decide) ?_
    refine a_icmp_ge 41 dX11_feed_34 (by decide) (fun c4 => ?_) (fun c4 => ?_)
    · replace h := ite_t c4 h
      refine a_iload dX11_feed_41 rfl ?_
      refine a_bipush (v := 8) dX11_feed_43 (by decide) ?_
      refine a_icmp_ge 52 dX11_feed_45 (by decide) (fun c5 => ?_) (fun c5 => ?_)
      · replace h := ite_t c5 h
        refine a_iload dX11_feed_52 rfl ?_
        refine a_bipush (v := 12) dX11_feed_54 (by decide) ?_
        refine a_icmp_ge 63 dX11_feed_56 (by decide) (fun c6 => ?_) (fun c6 => ?_)
        · replace h := ite_t c6 h
          refine a_iload dX11_feed_63 rfl ?_
          refine a_bipush (v := 16) dX11_feed_65 (by decide) ?_
          refine a_icmp_ge 75 dX11_feed_67 (by decide) (fun c7 => ?_) (fun c7 => ?_)
          · replace h := ite_t c7 h
            refine a_iload dX11_feed_75 rfl ?_
            exact a_lv (lv2 := [(0, .ref a0), (1, .int x1), (2, .int x2), (3, .int x3), (4, .int x4), (5, .int x5), (6, .int x6)]) (fa_cons rfl (fa_cons rfl (fa_cons rfl (fa_cons rfl (fa_cons rfl (fa_cons rfl (fa_cons rfl fa_nil))))))) (hJ _ _ _ h)
          · replace h := ite_f c7 h
            refine a_iload dX11_feed_70 rfl ?_
            refine a_goto 77 dX11_feed_72 (by decide) ?_
            exact a_lv (lv2 := [(0, .ref a0), (1, .int x1), (2, .int x2), (3, .int x3), (4, .int x4), (5, .int x5), (6, .int x6)]) (fa_cons rfl (fa_cons rfl (fa_cons rfl (fa_cons rfl (fa_cons rfl (fa_cons rfl (fa_cons rfl fa_nil))))))) (hJ _ _ _ h)
        · replace h := ite_f c6 h
          refine a_iload_n dX11_feed_59 rfl rfl ?_
          refine a_goto 77 dX11_feed_60 (by decide) ?_
          exact a_lv (lv2 := [(0, .ref a0), (1, .int x1), (2, .int x2), (3, .int x3), (4, .int x4), (5, .int x5), (6, .int x6)]) (fa_cons rfl (fa_cons rfl (fa_cons rfl (fa_cons rfl (fa_cons rfl (fa_cons rfl (fa_cons rfl fa_nil))))))) (hJ _ _ _ h)
      · replace h := ite_f c5 h
        refine a_iload_n dX11_feed_48 rfl rfl ?_
        refine a_goto 77 dX11_feed_49 (by decide) ?_
        exact a_lv (lv2 := [(0, .ref a0), (1, .int x1), (2, .int x2), (3, .int x3), (4, .int x4), (5, .int x5), (6, .int x6)]) (fa_cons rfl (fa_cons rfl (fa_cons rfl (fa_cons rfl (fa_cons rfl (fa_cons rfl (fa_cons rfl fa_nil))))))) (hJ _ _ _ h)
    · replace h := ite_f c4 h
      refine a_iload_n dX11_feed_37 rfl rfl ?_
      refine a_goto 77 dX11_feed_38 (by decide) ?_
      exact a_lv (lv2 := [(0, .ref a0), (1, .int x1), (2, .int x2), (3, .int x3), (4, .int x4), (5, .int x5), (6, .int x6)]) (fa_cons rfl (fa_cons rfl (fa_cons rfl (fa_cons rfl (fa_cons rfl (fa_cons rfl (fa_cons rfl fa_nil))))))) (hJ _ _ _ h)
set_option maxHeartbeats 4000000 in
set_option maxRecDepth 100000 in
noncomputable def T_X11_feed_77.{u} {α : Sort u} (J : Nat → List Value → Mem → α) (R : Int32 → Mem → α) (N : α) (n : Nat) (a0 : Nat) (x1 : Int32) (x2 : Int32) (x3 : Int32) (x4 : Int32) (x5 : Int32) (x6 : Int32) (xs0 : Int32) (M : Mem) : α := gd (fO M a0 11) N (bnd (M.2.2.2.2 a0 26) N (fun r3 => gd (fA M r3 0 (M.2.2.1 a0 27)) N (J 24 [.ref a0, .int x1, .int x2, .int x3, .int x4, .int x5, .int (x6 + 1)] (wI (wI M r3 ((M.2.2.1 a0 27).toNatClampNeg) ((Int32.toInt8 ((Int32.toInt8 (xs0 >>> ((24 - (8 * (x6 - x6 / 4 * 4))) &&& 31))).toInt32)).toInt32)) a0 27 (((wI M r3 ((M.2.2.1 a0 27).toNatClampNeg) ((Int32.toInt8 ((Int32.toInt8 (xs0 >>> ((24 - (8 * (x6 - x6 / 4 * 4))) &&& 31))).toInt32)).toInt32)).2.2.1 a0 27) + 1)))))
set_option maxHeartbeats 4000000 in
set_option maxRecDepth 100000 in
theorem n_X11_feed_77.{u, v} {α : Sort u} {β : Sort v} (h : α → β) (J : Nat → List Value → Mem → α) (R : Int32 → Mem → α) (N : α) (n : Nat) (a0 : Nat) (x1 : Int32) (x2 : Int32) (x3 : Int32) (x4 : Int32) (x5 : Int32) (x6 : Int32) (xs0 : Int32) (M : Mem) : h (T_X11_feed_77 J R N n a0 x1 x2 x3 x4 x5 x6 xs0 M) = T_X11_feed_77 (fun c l M => h (J c l M)) (fun v M => h (R v M)) (h N) n a0 x1 x2 x3 x4 x5 x6 xs0 M := by
  simp only [T_X11_feed_77, nat_ite h, nat_gd h, nat_bnd h, nat_bnd2 h]
set_option maxHeartbeats 4000000 in
set_option maxRecDepth 100000 in
theorem w_X11_feed_77 {X : Nat × (Nat → Int32)} {al : Bool} {n : Nat} {Q : Option Value → Mem → Prop} {J : Nat → List Value → Mem → Prop} (hJ : ∀ c l M, J c l M → PW_X11_feed X al n Q c l M) {R : Int32 → Mem → Prop} (hR : ∀ v M, R v M → Q (some (.int v)) M) {a0 : Nat} {x1 : Int32} {x2 : Int32} {x3 : Int32} {x4 : Int32} {x5 : Int32} {x6 : Int32} {xs0 : Int32} {M : Mem} (h : T_X11_feed_77 J R False n a0 x1 x2 x3 x4 x5 x6 xs0 M) : AW X (RX11, cX11_feed, 8, (some .int), false, al, n) 0 0 77 [(0, .ref a0), (1, .int x1), (2, .int x2), (3, .int x3), (4, .int x4), (5, .int x5), (6, .int x6)] [.int xs0] M Q := by
  unfold T_X11_feed_77 at h
  refine a_istore dX11_feed_77 (Nat.le_of_ble_eq_true rfl) (lv2 := [(7, .int xs0), (0, .ref a0), (1, .int x1), (2, .int x2), (3, .int x3), (4, .int x4), (5, .int x5), (6, .int x6)]) rfl ?_
  refine a_aload_n dX11_feed_79 rfl rfl ?_
  obtain ⟨⟨ga1, gs2⟩, h⟩ := gd_t h
  obtain ⟨r3, e4, h⟩ := bnd_t h
  refine a_get (v := .ref r3) dX11_feed_80 fl_11_71 ga1 gs2 (gvR e4 rfl) ?_
  refine a_aload_n dX11_feed_83 rfl rfl ?_
  refine a_get (v := .int (M.2.2.1 a0 27)) dX11_feed_84 fl_11_154 ga1 gs2 rfl ?_
  refine a_iload dX11_feed_87 rfl ?_
  refine a_bipush (v := 24) dX11_feed_89 (by decide) ?_
  refine a_bipush (v := 8) dX11_feed_91 (by decide) ?_
  refine a_iload dX11_feed_93 rfl ?_
  refine a_iconst (v := 4) dX11_feed_95 (by decide) ?_
  refine a_irem dX11_feed_96 (by decide) ?_
  refine a_imul dX11_feed_97 ?_
  refine a_isub dX11_feed_98 ?_
  refine a_ishr dX11_feed_99 ?_
  refine a_i2b dX11_feed_100 ?_
  obtain ⟨⟨ga5, gn6, gs7, gi8⟩, h⟩ := gd_t h
  refine a_bastore0 dX11_feed_101 ga5 gs7 gi8 ?_
  refine a_aload_n dX11_feed_102 rfl rfl ?_
  refine a_dup dX11_feed_103 rfl ?_
  refine a_get (v := .int ((wI M r3 ((M.2.2.1 a0 27).toNatClampNeg) ((Int32.toInt8 ((Int32.toInt8 (xs0 >>> ((24 - (8 * (x6 - x6 / 4 * 4))) &&& 31))).toInt32)).toInt32)).2.2.1 a0 27)) dX11_feed_104 fl_11_154 ga1 gs2 rfl ?_
  refine a_iconst (v := 1) dX11_feed_107 (by decide) ?_
  refine a_iadd dX11_feed_108 ?_
  refine a_putI dX11_feed_109 (Or.inl ⟨fl_11_154, Or.inl rfl⟩) rfl ga1 gs2 rfl rfl ?_
  refine a_iinc (v := (x6 + 1)) dX11_feed_112 rfl (by first | rfl | decide) (Nat.le_of_ble_eq_true rfl) (lv2 := [(6, .int (x6 + 1)), (7, .int xs0), (0, .ref a0), (1, .int x1), (2, .int x2), (3, .int x3), (4, .int x4), (5, .int x5)]) rfl ?_
  refine a_goto 24 dX11_feed_115 (by decide) ?_
  exact a_lv (lv2 := [(0, .ref a0), (1, .int x1), (2, .int x2), (3, .int x3), (4, .int x4), (5, .int x5), (6, .int (x6 + 1))]) (fa_cons rfl (fa_cons rfl (fa_cons rfl (fa_cons rfl (fa_cons rfl (fa_cons rfl (fa_cons rfl fa_nil))))))) (hJ _ _ _ h)
set_option maxHeartbeats 4000000 in
set_option maxRecDepth 100000 in
noncomputable def st_X11_feed (n : Nat) (s : Sg) : Option (Sg ⊕ (Int32 × Mem)) := if s.1 = 0 then vR s.2.1 none (fun a0 t => vI t none (fun x1 t => vI t none (fun x2 t => vI t none (fun x3 t => vI t none (fun x4 t => vI t none (fun x5 t => vE t none (T_X11_feed_0 (fun c l M => some (.inl (c, l, M))) (fun v M => some (.inr (v, M))) none n a0 x1 x2 x3 x4 x5 s.2.2))))))) else if s.1 = 24 then vR s.2.1 none (fun a0 t => vI t none (fun x1 t => vI t none (fun x2 t => vI t none (fun x3 t => vI t none (fun x4 t => vI t none (fun x5 t => vI t none (fun x6 t => vE t none (T_X11_feed_24 (fun c l M => some (.inl (c, l, M))) (fun v M => some (.inr (v, M))) none n a0 x1 x2 x3 x4 x5 x6 s.2.2)))))))) else if s.1 = 77 then vR s.2.1 none (fun a0 t => vI t none (fun x1 t => vI t none (fun x2 t => vI t none (fun x3 t => vI t none (fun x4 t => vI t none (fun x5 t => vI t none (fun x6 t => vI t none (fun xs0 t => vE t none (T_X11_feed_77 (fun c l M => some (.inl (c, l, M))) (fun v M => some (.inr (v, M))) none n a0 x1 x2 x3 x4 x5 x6 xs0 s.2.2))))))))) else none
noncomputable abbrev g_X11_feed_0 (n : Nat) (a0 : Nat) (x1 : Int32) (x2 : Int32) (x3 : Int32) (x4 : Int32) (x5 : Int32) (M : Mem) : Option (Int32 × Mem) := lp (st_X11_feed n) (0, [.ref a0, .int x1, .int x2, .int x3, .int x4, .int x5], M)
set_option maxHeartbeats 4000000 in
set_option maxRecDepth 100000 in
theorem ge_X11_feed_0 (n : Nat) (a0 : Nat) (x1 : Int32) (x2 : Int32) (x3 : Int32) (x4 : Int32) (x5 : Int32) (M : Mem) : g_X11_feed_0 n a0 x1 x2 x3 x4 x5 M = T_X11_feed_0 (fun c l M => lp (st_X11_feed n) (c, l, M)) (fun v M => some (v, M)) none n a0 x1 x2 x3 x4 x5 M := (lp_eq _ _).trans (n_X11_feed_0 (lpK (st_X11_feed n)) (fun c l M => some (.inl (c, l, M))) (fun v M => some (.inr (v, M))) none n a0 x1 x2 x3 x4 x5 M)
noncomputable abbrev g_X11_feed_24 (n : Nat) (a0 : Nat) (x1 : Int32) (x2 : Int32) (x3 : Int32) (x4 : Int32) (x5 : Int32) (x6 : Int32) (M : Mem) : Option (Int32 × Mem) := lp (st_X11_feed n) (24, [.ref a0, .int x1, .int x2, .int x3, .int x4, .int x5, .int x6], M)
set_option maxHeartbeats 4000000 in
set_option maxRecDepth 100000 in
theorem ge_X11_feed_24 (n : Nat) (a0 : Nat) (x1 : Int32) (x2 : Int32) (x3 : Int32) (x4 : Int32) (x5 : Int32) (x6 : Int32) (M : Mem) : g_X11_feed_24 n a0 x1 x2 x3 x4 x5 x6 M = T_X11_feed_24 (fun c l M => lp (st_X11_feed n) (c, l, M)) (fun v M => some (v, M)) none n a0 x1 x2 x3 x4 x5 x6 M := (lp_eq _ _).trans (n_X11_feed_24 (lpK (st_X11_feed n)) (fun c l M => some (.inl (c, l, M))) (fun v M => some (.inr (v, M))) none n a0 x1 x2 x3 x4 x5 x6 M)
noncomputable abbrev g_X11_feed_77 (n : Nat) (a0 : Nat) (x1 : Int32) (x2 : Int32) (x3 : Int32) (x4 : Int32) (x5 : Int32) (x6 : Int32) (xs0 : Int32) (M : Mem) : Option (Int32 × Mem) := lp (st_X11_feed n) (77, [.ref a0, .int x1, .int x2, .int x3, .int x4, .int x5, .int x6, .int xs0], M)
set_option maxHeartbeats 4000000 in
set_option maxRecDepth 100000 in
theorem ge_X11_feed_77 (n : Nat) (a0 : Nat) (x1 : Int32) (x2 : Int32) (x3 : Int32) (x4 : Int32) (x5 : Int32) (x6 : Int32) (xs0 : Int32) (M : Mem) : g_X11_feed_77 n a0 x1 x2 x3 x4 x5 x6 xs0 M = T_X11_feed_77 (fun c l M => lp (st_X11_feed n) (c, l, M)) (fun v M => some (v, M)) none n a0 x1 x2 x3 x4 x5 x6 xs0 M := (lp_eq _ _).trans (n_X11_feed_77 (lpK (st_X11_feed n)) (fun c l M => some (.inl (c, l, M))) (fun v M => some (.inr (v, M))) none n a0 x1 x2 x3 x4 x5 x6 xs0 M)
noncomputable def b_X11_feed (n : Nat) (a0 : Nat) (x1 : Int32) (x2 : Int32) (x3 : Int32) (x4 : Int32) (x5 : Int32) (M : Mem) : Option (Int32 × Mem) := g_X11_feed_0 n a0 x1 x2 x3 x4 x5 M
set_option maxHeartbeats 4000000 in
set_option maxRecDepth 100000 in
theorem sb_X11_feed {X : Nat × (Nat → Int32)} {al : Bool} {n : Nat} {a0 : Nat} {x1 : Int32} {x2 : Int32} {x3 : Int32} {x4 : Int32} {x5 : Int32} {M : Mem} {v : Int32} {M1 : Mem} (h : b_X11_feed n a0 x1 x2 x3 x4 x5 M = some (v, M1)) : AE yX11_feed cX11_feed 8 (some .int) al n X [.ref a0, .int x1, .int x2, .int x3, .int x4, .int x5] M (some (.int v)) M1 := by
  refine AM.of false (by decide +kernel) (by intro h; cases h) (Nat.le_of_ble_eq_true rfl) ?_
  refine lp_snd (P := fun s r => PW_X11_feed X al n (fun v M2 => v = (some (.int r.1)) ∧ M2 = r.2) s.1 s.2.1 s.2.2) ?_ h
  clear h
  rintro ⟨c, l, M⟩ r h
  unfold st_X11_feed at h
  rcases ite_p h with ⟨e, h⟩ | ⟨e, h⟩
  · replace e : c = 0 := e
    subst e
    obtain ⟨a0, tt0, e, h⟩ := vR_p id h
    replace e : l = _ := e
    subst e
    obtain ⟨x1, tt1, e, h⟩ := vI_p id h
    replace e : tt0 = _ := e
    subst e
    obtain ⟨x2, tt2, e, h⟩ := vI_p id h
    replace e : tt1 = _ := e
    subst e
    obtain ⟨x3, tt3, e, h⟩ := vI_p id h
    replace e : tt2 = _ := e
    subst e
    obtain ⟨x4, tt4, e, h⟩ := vI_p id h
    replace e : tt3 = _ := e
    subst e
    obtain ⟨x5, tt5, e, h⟩ := vI_p id h
    replace e : tt4 = _ := e
    subst e
    obtain ⟨e, h⟩ := vE_p id h
    replace e : tt5 = [] := e
    subst e
    exact w_X11_feed_0 (J := fun c l M => PW_X11_feed X al n (fun v M2 => v = (some (.int r.1)) ∧ M2 = r.2) c l M) (R := fun v M => (v, M) = r) (fun _ _ _ h => h) (fun v M h => by cases h; exact ⟨rfl, rfl⟩) ((n_X11_feed_0 (lpP (fun (s : Sg) (r : Int32 × Mem) => PW_X11_feed X al n (fun v M2 => v = (some (.int r.1)) ∧ M2 = r.2) s.1 s.2.1 s.2.2) r) (fun c l M => some (.inl (c, l, M))) (fun v M => some (.inr (v, M))) none n a0 x1 x2 x3 x4 x5 M).mp h)
  rcases ite_p h with ⟨e, h⟩ | ⟨e, h⟩
  · replace e : c = 24 := e
    subst e
    obtain ⟨a0, tt0, e, h⟩ := vR_p id h
    replace e : l = _ := e
    subst e
    obtain ⟨x1, tt1, e, h⟩ := vI_p id h
    replace e : tt0 = _ := e
    subst e
    obtain ⟨x2, tt2, e, h⟩ := vI_p id h
    replace e : tt1 = _ := e
    subst e
    obtain ⟨x3, tt3, e, h⟩ := vI_p id h
    replace e : tt2 = _ := e
    subst e
    obtain ⟨x4, tt4, e, h⟩ := vI_p id h
    replace e : tt3 = _ := e
    subst e
    obtain ⟨x5, tt5, e, h⟩ := vI_p id h
    replace e : tt4 = _ := e
    subst e
    obtain ⟨x6, tt6, e, h⟩ := vI_p id h
    replace e : tt5 = _ := e
    subst e
    obtain ⟨e, h⟩ := vE_p id h
    replace e : tt6 = [] := e
    subst e
    exact w_X11_feed_24 (J := fun c l M => PW_X11_feed X al n (fun v M2 => v = (some (.int r.1)) ∧ M2 = r.2) c l M) (R := fun v M => (v, M) = r) (fun _ _ _ h => h) (fun v M h => by cases h; exact ⟨rfl, rfl⟩) ((n_X11_feed_24 (lpP (fun (s : Sg) (r : Int32 × Mem) => PW_X11_feed X al n (fun v M2 => v = (some (.int r.1)) ∧ M2 = r.2) s.1 s.2.1 s.2.2) r) (fun c l M => some (.inl (c, l, M))) (fun v M => some (.inr (v, M))) none n a0 x1 x2 x3 x4 x5 x6 M).mp h)
  rcases ite_p h with ⟨e, h⟩ | ⟨e, h⟩
  · replace e : c = 77 := e
    subst e
    obtain ⟨a0, tt0, e, h⟩ := vR_p id h
    replace e : l = _ := e
    subst e
    obtain ⟨x1, tt1, e, h⟩ := vI_p id h
    replace e : tt0 = _ := e
    subst e
    obtain ⟨x2, tt2, e, h⟩ := vI_p id h
    replace e : tt1 = _ := e
    subst e
    obtain ⟨x3, tt3, e, h⟩ := vI_p id h
    replace e : tt2 = _ := e
    subst e
    obtain ⟨x4, tt4, e, h⟩ := vI_p id h
    replace e : tt3 = _ := e
    subst e
    obtain ⟨x5, tt5, e, h⟩ := vI_p id h
    replace e : tt4 = _ := e
    subst e
    obtain ⟨x6, tt6, e, h⟩ := vI_p id h
    replace e : tt5 = _ := e
    subst e
    obtain ⟨xs0, tt7, e, h⟩ := vI_p id h
    replace e : tt6 = _ := e
    subst e
    obtain ⟨e, h⟩ := vE_p id h
    replace e : tt7 = [] := e
    subst e
    exact w_X11_feed_77 (J := fun c l M => PW_X11_feed X al n (fun v M2 => v = (some (.int r.1)) ∧ M2 = r.2) c l M) (R := fun v M => (v, M) = r) (fun _ _ _ h => h) (fun v M h => by cases h; exact ⟨rfl, rfl⟩) ((n_X11_feed_77 (lpP (fun (s : Sg) (r : Int32 × Mem) => PW_X11_feed X al n (fun v M2 => v = (some (.int r.1)) ∧ M2 = r.2) s.1 s.2.1 s.2.2) r) (fun c l M => some (.inl (c, l, M))) (fun v M => some (.inr (v, M))) none n a0 x1 x2 x3 x4 x5 x6 xs0 M).mp h)
  · exact h.elim

noncomputable abbrev f_X11_feed := b_X11_feed
theorem s_X11_feed {X : Nat × (Nat → Int32)} {al : Bool} {n : Nat} {a0 : Nat} {x1 : Int32} {x2 : Int32} {x3 : Int32} {x4 : Int32} {x5 : Int32} {M : Mem} {v : Int32} {M1 : Mem} (h : f_X11_feed n a0 x1 x2 x3 x4 x5 M = some (v, M1)) : AE yX11_feed cX11_feed 8 (some .int) al n X [.ref a0, .int x1, .int x2, .int x3, .int x4, .int x5] M (some (.int v)) M1 := sb_X11_feed h
set_option maxHeartbeats 4000000 in
set_option maxRecDepth 100000 in
noncomputable def T_X10_tapeLacks_0.{u} {α : Sort u} (R : Int32 → Mem → α) (N : α) (n : Nat) (a0 : Nat) (x1 : Int32) (M : Mem) : α := if x1 < 0 then R 1 M else gd (fO M a0 10) N (if x1 ≤ (M.2.2.1 a0 1) then R 0 M else R 1 M)
set_option maxHeartbeats 4000000 in
set_option maxRecDepth 100000 in
theorem n_X10_tapeLacks_0.{u, v} {α : Sort u} {β : Sort v} (h : α → β) (R : Int32 → Mem → α) (N : α) (n : Nat) (a0 : Nat) (x1 : Int32) (M : Mem) : h (T_X10_tapeLacks_0 R N n a0 x1 M) = T_X10_tapeLacks_0 (fun v M => h (R v M)) (h N) n a0 x1 M := by
  simp only [T_X10_tapeLacks_0, nat_ite h, nat_gd h, nat_bnd h, nat_bnd2 h]
set_option maxHeartbeats 4000000 in
set_option maxRecDepth 100000 in
theorem w_X10_tapeLacks_0 {X : Nat × (Nat → Int32)} {al : Bool} {n : Nat} {Q : Option Value → Mem → Prop} {R : Int32 → Mem → Prop} (hR : ∀ v M, R v M → Q (some (.int v)) M) {a0 : Nat} {x1 : Int32} {M : Mem} (h : T_X10_tapeLacks_0 R False n a0 x1 M) : AW X (RX10, cX10_tapeLacks, 2, (some .boolean), false, al, n) 0 0 0 [(0, .ref a0), (1, .int x1)] [] M Q := by
  unfold T_X10_tapeLacks_0 at h
  refine a_iload_n dX10_tapeLacks_0 rfl rfl ?_
  refine a_if_lt 12 dX10_tapeLacks_1 (by decide) (fun c1 => ?_) (fun c1 => ?_)
  · replace h := ite_t c1 h
    refine a_iconst (v := 1) dX10_tapeLacks_12 (by decide) ?_
    refine a_goto 17 dX10_tapeLacks_13 (by decide) ?_
    exact a_zret dX10_tapeLacks_17 rfl rfl (hR _ _ h)
  · replace h := ite_f c1 h
    refine a_iload_n dX10_tapeLacks_4 rfl rfl ?_
    refine a_aload_n dX10_tapeLacks_5 rfl rfl ?_
    obtain ⟨⟨ga2, gs3⟩, h⟩ := gd_t h
    refine a_get (v := .int (M.2.2.1 a0 1)) dX10_tapeLacks_6 fl_10_112 ga2 gs3 rfl ?_
    refine a_icmp_le 16 dX10_tapeLacks_9 (by decide) (fun c4 => ?_) (fun c4 => ?_)
    · replace h := ite_t c4 h
      refine a_iconst (v := 0) dX10_tapeLacks_16 (by decide) ?_
      exact a_zret dX10_tapeLacks_17 rfl rfl (hR _ _ h)
    · replace h := ite_f c4 h
      refine a_iconst (v := 1) dX10_tapeLacks_12 (by decide) ?_
      refine a_goto 17 dX10_tapeLacks_13 (by decide) ?_
      exact a_zret dX10_tapeLacks_17 rfl rfl (hR _ _ h)
noncomputable def b_X10_tapeLacks (n : Nat) (a0 : Nat) (x1 : Int32) (M : Mem) : Option (Int32 × Mem) := T_X10_tapeLacks_0 (fun v M => some (v, M)) none n a0 x1 M
set_option maxHeartbeats 4000000 in
set_option maxRecDepth 100000 in
theorem sb_X10_tapeLacks {X : Nat × (Nat → Int32)} {al : Bool} {n : Nat} {a0 : Nat} {x1 : Int32} {M : Mem} {v : Int32} {M1 : Mem} (h : b_X10_tapeLacks n a0 x1 M = some (v, M1)) : AE yX10_tapeLacks cX10_tapeLacks 2 (some .boolean) al n X [.ref a0, .int x1] M (some (.int v)) M1 := by
  refine AM.of false (by decide +kernel) (by intro h; cases h) (Nat.le_of_ble_eq_true rfl) ?_
  have h2 : T_X10_tapeLacks_0 (fun v2 M2 => some (v2, M2) = some (v, M1)) (none = some (v, M1)) n a0 x1 M := (n_X10_tapeLacks_0 (fun o => o = some (v, M1)) (fun v M => some (v, M)) none n a0 x1 M).mp h
  have h3 : ((none : Option (Int32 × Mem)) = some (v, M1)) = False := eq_false (by intro q; cases q)
  rw [h3] at h2
  exact w_X10_tapeLacks_0 (fun v2 M2 h => by cases h; exact ⟨rfl, rfl⟩) h2

noncomputable abbrev f_X10_tapeLacks := b_X10_tapeLacks
theorem s_X10_tapeLacks {X : Nat × (Nat → Int32)} {al : Bool} {n : Nat} {a0 : Nat} {x1 : Int32} {M : Mem} {v : Int32} {M1 : Mem} (h : f_X10_tapeLacks n a0 x1 M = some (v, M1)) : AE yX10_tapeLacks cX10_tapeLacks 2 (some .boolean) al n X [.ref a0, .int x1] M (some (.int v)) M1 := sb_X10_tapeLacks h
set_option maxHeartbeats 4000000 in
set_option maxRecDepth 100000 in
noncomputable def T_X6_begin_0.{u} {α : Sort u} (R : Unit → Mem → α) (N : α) (n : Nat) (a0 : Nat) (x1 : Int32) (M : Mem) : α := gd (fO M a0 6) N (bnd (M.2.2.2.2 a0 1) N (fun r3 => bnd (aLen M r3) N (fun z5 => gd (1 ≤ n) N (R () (wI (wI (wI (wI M a0 10 (if (Int32.ofNat z5) < x1 then (Int32.ofNat z5) else x1)) a0 11 0) a0 17 0) a0 18 (-1))))))
set_option maxHeartbeats 4000000 in
set_option maxRecDepth 100000 in
theorem n_X6_begin_0.{u, v} {α : Sort u} {β : Sort v} (h : α → β) (R : Unit → Mem → α) (N : α) (n : Nat) (a0 : Nat) (x1 : Int32) (M : Mem) : h (T_X6_begin_0 R N n a0 x1 M) = T_X6_begin_0 (fun v M => h (R v M)) (h N) n a0 x1 M := by
  simp only [T_X6_begin_0, nat_ite h, nat_gd h, nat_bnd h, nat_bnd2 h]
set_option maxHeartbeats 4000000 in
set_option maxRecDepth 100000 in
theorem w_X6_begin_0 {X : Nat × (Nat → Int32)} {al : Bool} {n : Nat} {Q : Option Value → Mem → Prop} {R : Unit → Mem → Prop} (hR : ∀ v M, R v M → Q none M) {a0 : Nat} {x1 : Int32} {M : Mem} (h : T_X6_begin_0 R False n a0 x1 M) : AW X (RX6, cX6_begin, 2, none, false, al, n) 0 0 0 [(0, .ref a0), (1, .int x1)] [] M Q := by
  unfold T_X6_begin_0 at h
  refine a_aload_n dX6_begin_0 rfl rfl ?_
  refine a_iload_n dX6_begin_1 rfl rfl ?_
  refine a_aload_n dX6_begin_2 rfl rfl ?_
  obtain ⟨⟨ga1, gs2⟩, h⟩ := gd_t h
  obtain ⟨r3, e4, h⟩ := bnd_t h
  refine a_get (v := .ref r3) dX6_begin_3 fl_6_43 ga1 gs2 (gvR e4 rfl) ?_
  obtain ⟨z5, e6, h⟩ := bnd_t h
  obtain ⟨ga7, gt8, gu9, gs10⟩ := aLen_t e6
  refine a_alen gu9 dX6_begin_6 ga7 gs10 rfl ?_
  obtain ⟨gf11, h⟩ := gd_t h
  refine a_mmin dX6_begin_7 mm_X6_54 mmin_s ini_Math mmin_c gf11 (Nat.le_of_ble_eq_true rfl) ?_
  refine a_putI dX6_begin_10 (Or.inl ⟨fl_6_59, Or.inl rfl⟩) rfl ga1 gs2 rfl rfl ?_
  refine a_aload_n dX6_begin_13 rfl rfl ?_
  refine a_iconst (v := 0) dX6_begin_14 (by decide) ?_
  refine a_putI dX6_begin_15 (Or.inl ⟨fl_6_62, Or.inl rfl⟩) rfl ga1 gs2 rfl rfl ?_
  refine a_aload_n dX6_begin_18 rfl rfl ?_
  refine a_iconst (v := 0) dX6_begin_19 (by decide) ?_
  refine a_putI dX6_begin_20 (Or.inl ⟨fl_6_65, Or.inl rfl⟩) rfl ga1 gs2 rfl rfl ?_
  refine a_aload_n dX6_begin_23 rfl rfl ?_
  refine a_iconst (v := -1) dX6_begin_24 (by decide) ?_
  refine a_putI dX6_begin_25 (Or.inl ⟨fl_6_35, Or.inl rfl⟩) rfl ga1 gs2 rfl rfl ?_
  exact a_vret dX6_begin_28 rfl (hR _ _ h)
noncomputable def b_X6_begin (n : Nat) (a0 : Nat) (x1 : Int32) (M : Mem) : Option (Unit × Mem) := T_X6_begin_0 (fun v M => some (v, M)) none n a0 x1 M
set_option maxHeartbeats 4000000 in
set_option maxRecDepth 100000 in
theorem sb_X6_begin {X : Nat × (Nat → Int32)} {al : Bool} {n : Nat} {a0 : Nat} {x1 : Int32} {M : Mem} {v : Unit} {M1 : Mem} (h : b_X6_begin n a0 x1 M = some (v, M1)) : AE yX6_begin cX6_begin 2 none al n X [.ref a0, .int x1] M none M1 := by
  refine AM.of false (by decide +kernel) (by intro h; cases h) (Nat.le_of_ble_eq_true rfl) ?_
  have h2 : T_X6_begin_0 (fun v2 M2 => some (v2, M2) = some (v, M1)) (none = some (v, M1)) n a0 x1 M := (n_X6_begin_0 (fun o => o = some (v, M1)) (fun v M => some (v, M)) none n a0 x1 M).mp h
  have h3 : ((none : Option (Unit × Mem)) = some (v, M1)) = False := eq_false (by intro q; cases q)
  rw [h3] at h2
  exact w_X6_begin_0 (fun v2 M2 h => by cases h; exact ⟨rfl, rfl⟩) h2

noncomputable abbrev f_X6_begin := b_X6_begin
theorem s_X6_begin {X : Nat × (Nat → Int32)} {al : Bool} {n : Nat} {a0 : Nat} {x1 : Int32} {M : Mem} {v : Unit} {M1 : Mem} (h : f_X6_begin n a0 x1 M = some (v, M1)) : AE yX6_begin cX6_begin 2 none al n X [.ref a0, .int x1] M none M1 := sb_X6_begin h
set_option maxHeartbeats 4000000 in
set_option maxRecDepth 100000 in
noncomputable def T_X2_clear_0.{u} {α : Sort u} (R : Unit → Mem → α) (N : α) (n : Nat) (a0 : Nat) (M : Mem) : α := gd (fO M a0 2) N (R () (wI M a0 3 0))
set_option maxHeartbeats 4000000 in
set_option maxRecDepth 100000 in
theorem n_X2_clear_0.{u, v} {α : Sort u} {β : Sort v} (h : α → β) (R : Unit → Mem → α) (N : α) (n : Nat) (a0 : Nat) (M : Mem) : h (T_X2_clear_0 R N n a0 M) = T_X2_clear_0 (fun v M => h (R v M)) (h N) n a0 M := by
  simp only [T_X2_clear_0, nat_ite h, nat_gd h, nat_bnd h, nat_bnd2 h]
set_option maxHeartbeats 4000000 in
set_option maxRecDepth 100000 in
theorem w_X2_clear_0 {X : Nat × (Nat → Int32)} {al : Bool} {n : Nat} {Q : Option Value → Mem → Prop} {R : Unit → Mem → Prop} (hR : ∀ v M, R v M → Q none M) {a0 : Nat} {M : Mem} (h : T_X2_clear_0 R False n a0 M) : AW X (RX2, cX2_clear, 1, none, false, al, n) 0 0 0 [(0, .ref a0)] [] M Q := by
  unfold T_X2_clear_0 at h
  refine a_aload_n dX2_clear_0 rfl rfl ?_
  refine a_iconst (v := 0) dX2_clear_1 (by decide) ?_
  obtain ⟨⟨ga1, gs2⟩, h⟩ := gd_t h
  refine a_putI dX2_clear_2 (Or.inl ⟨fl_2_21, Or.inl rfl⟩) rfl ga1 gs2 rfl rfl ?_
  exact a_vret dX2_clear_5 rfl (hR _ _ h)
noncomputable def b_X2_clear (n : Nat) (a0 : Nat) (M : Mem) : Option (Unit × Mem) := T_X2_clear_0 (fun v M => some (v, M)) none n a0 M
set_option maxHeartbeats 4000000 in
set_option maxRecDepth 100000 in
theorem sb_X2_clear {X : Nat × (Nat → Int32)} {al : Bool} {n : Nat} {a0 : Nat} {M : Mem} {v : Unit} {M1 : Mem} (h : b_X2_clear n a0 M = some (v, M1)) : AE yX2_clear cX2_clear 1 none al n X [.ref a0] M none M1 := by
  refine AM.of false (by decide +kernel) (by intro h; cases h) (Nat.le_of_ble_eq_true rfl) ?_
  have h2 : T_X2_clear_0 (fun v2 M2 => some (v2, M2) = some (v, M1)) (none = some (v, M1)) n a0 M := (n_X2_clear_0 (fun o => o = some (v, M1)) (fun v M => some (v, M)) none n a0 M).mp h
  have h3 : ((none : Option (Unit × Mem)) = some (v, M1)) = False := eq_false (by intro q; cases q)
  rw [h3] at h2
  exact w_X2_clear_0 (fun v2 M2 h => by cases h; exact ⟨rfl, rfl⟩) h2

noncomputable abbrev f_X2_clear := b_X2_clear
theorem s_X2_clear {X : Nat × (Nat → Int32)} {al : Bool} {n : Nat} {a0 : Nat} {M : Mem} {v : Unit} {M1 : Mem} (h : f_X2_clear n a0 M = some (v, M1)) : AE yX2_clear cX2_clear 1 none al n X [.ref a0] M none M1 := sb_X2_clear h
set_option maxHeartbeats 4000000 in
set_option maxRecDepth 100000 in
noncomputable def T_X6_isLetter_0.{u} {α : Sort u} (R : Int32 → Mem → α) (N : α) (n : Nat) (x0 : Int32) (M : Mem) : α := if x0 < 97 then R 0 M else if 122 < x0 then R 0 M else R 1 M
set_option maxHeartbeats 4000000 in
set_option maxRecDepth 100000 in
theorem n_X6_isLetter_0.{u, v} {α : Sort u} {β : Sort v} (h : α → β) (R : Int32 → Mem → α) (N : α) (n : Nat) (x0 : Int32) (M : Mem) : h (T_X6_isLetter_0 R N n x0 M) = T_X6_isLetter_0 (fun v M => h (R v M)) (h N) n x0 M := by
  simp only [T_X6_isLetter_0, nat_ite h, nat_gd h, nat_bnd h, nat_bnd2 h]
set_option maxHeartbeats 4000000 in
set_option maxRecDepth 100000 in
theorem w_X6_isLetter_0 {X : Nat × (Nat → Int32)} {al : Bool} {n : Nat} {Q : Option Value → Mem → Prop} {R : Int32 → Mem → Prop} (hR : ∀ v M, R v M → Q (some (.int v)) M) {x0 : Int32} {M : Mem} (h : T_X6_isLetter_0 R False n x0 M) : AW X (RX6, cX6_isLetter, 1, (some .boolean), false, al, n) 0 0 0 [(0, .int x0)] [] M Q := by
  unfold T_X6_isLetter_0 at h
  refine a_iload_n dX6_isLetter_0 rfl rfl ?_
  refine a_bipush (v := 97) dX6_isLetter_1 (by decide) ?_
  refine a_icmp_lt 16 dX6_isLetter_3 (by decide) (fun c1 => ?_) (fun c1 => ?_)
  · replace h := ite_t c1 h
    refine a_iconst (v := 0) dX6_isLetter_16 (by decide) ?_
    exact a_zret dX6_isLetter_17 rfl rfl (hR _ _ h)
  · replace h := ite_f c1 h
    refine a_iload_n dX6_isLetter_6 rfl rfl ?_
    refine a_bipush (v := 122) dX6_isLetter_7 (by decide) ?_
    refine a_icmp_gt 16 dX6_isLetter_9 (by decide) (fun c2 => ?_) (fun c2 => ?_)
    · replace h := ite_t c2 h
      refine a_iconst (v := 0) dX6_isLetter_16 (by decide) ?_
      exact a_zret dX6_isLetter_17 rfl rfl (hR _ _ h)
    · replace h := ite_f c2 h
      refine a_iconst (v := 1) dX6_isLetter_12 (by decide) ?_
      refine a_goto 17 dX6_isLetter_13 (by decide) ?_
      exact a_zret dX6_isLetter_17 rfl rfl (hR _ _ h)
noncomputable def b_X6_isLetter (n : Nat) (x0 : Int32) (M : Mem) : Option (Int32 × Mem) := T_X6_isLetter_0 (fun v M => some (v, M)) none n x0 M
set_option maxHeartbeats 4000000 in
set_option maxRecDepth 100000 in
theorem sb_X6_isLetter {X : Nat × (Nat → Int32)} {al : Bool} {n : Nat} {x0 : Int32} {M : Mem} {v : Int32} {M1 : Mem} (h : b_X6_isLetter n x0 M = some (v, M1)) : AE yX6_isLetter cX6_isLetter 1 (some .boolean) al n X [.int x0] M (some (.int v)) M1 := by
  refine AM.of false (by decide +kernel) (by intro h; cases h) (Nat.le_of_ble_eq_true rfl) ?_
  have h2 : T_X6_isLetter_0 (fun v2 M2 => some (v2, M2) = some (v, M1)) (none = some (v, M1)) n x0 M := (n_X6_isLetter_0 (fun o => o = some (v, M1)) (fun v M => some (v, M)) none n x0 M).mp h
  have h3 : ((none : Option (Int32 × Mem)) = some (v, M1)) = False := eq_false (by intro q; cases q)
  rw [h3] at h2
  exact w_X6_isLetter_0 (fun v2 M2 h => by cases h; exact ⟨rfl, rfl⟩) h2

noncomputable abbrev f_X6_isLetter := b_X6_isLetter
theorem s_X6_isLetter {X : Nat × (Nat → Int32)} {al : Bool} {n : Nat} {x0 : Int32} {M : Mem} {v : Int32} {M1 : Mem} (h : f_X6_isLetter n x0 M = some (v, M1)) : AE yX6_isLetter cX6_isLetter 1 (some .boolean) al n X [.int x0] M (some (.int v)) M1 := sb_X6_isLetter h
def ix_X6_codeOf (c : Nat) : List Nat := if c = 0 then [0, 1] else if c = 2 then [0, 1, 3] else []
def PW_X6_codeOf (X : Nat × (Nat → Int32)) (al : Bool) (n : Nat) (Q : Option Value → Mem → Prop) (c : Nat) (l : List Value) (M : Mem) : Prop := AW X (RX6, cX6_codeOf, 4, (some .int), false, al, n) 0 0 c (List.zip (ix_X6_codeOf c) l) (l.drop (ix_X6_codeOf c).length) M Q
set_option maxHeartbeats 4000000 in
set_option maxRecDepth 100000 in
noncomputable def T_X6_codeOf_0.{u} {α : Sort u} (J : Nat → List Value → Mem → α) (R : Int32 → Mem → α) (N : α) (n : Nat) (a0 : Nat) (j1 : Int64) (M : Mem) : α := J 2 [.ref a0, .long j1, .int 0] M
set_option maxHeartbeats 4000000 in
set_option maxRecDepth 100000 in
theorem n_X6_codeOf_0.{u, v} {α : Sort u} {β : Sort v} (h : α → β) (J : Nat → List Value → Mem → α) (R : Int32 → Mem → α) (N : α) (n : Nat) (a0 : Nat) (j1 : Int64) (M : Mem) : h (T_X6_codeOf_0 J R N n a0 j1 M) = T_X6_codeOf_0 (fun c l M => h (J c l M)) (fun v M => h (R v M)) (h N) n a0 j1 M := by
  simp only [T_X6_codeOf_0, nat_ite h, nat_gd h, nat_bnd h, nat_bnd2 h]
set_option maxHeartbeats 4000000 in
set_option maxRecDepth 100000 in
theorem w_X6_codeOf_0 {X : Nat × (Nat → Int32)} {al : Bool} {n : Nat} {Q : Option Value → Mem → Prop} {J : Nat → List Value → Mem → Prop} (hJ : ∀ c l M, J c l M → PW_X6_codeOf X al n Q c l M) {R : Int32 → Mem → Prop} (hR : ∀ v M, R v M → Q (some (.int v)) M) {a0 : Nat} {j1 : Int64} {M : Mem} (h : T_X6_codeOf_0 J R False n a0 j1 M) : AW X (RX6, cX6_codeOf, 4, (some .int), false, al, n) 0 0 0 [(0, .ref a0), (1, .long j1)] [] M Q := by
  unfold T_X6_codeOf_0 at h
  refine a_iconst (v := 0) dX6_codeOf_0 (by decide) ?_
  refine a_istore_n dX6_codeOf_1 rfl (Nat.le_of_ble_eq_true rfl) (lv2 := [(3, .int 0), (0, .ref a0), (1, .long j1)]) rfl ?_
  exact a_lv (lv2 := [(0, .ref a0), (1, .long j1), (3, .int 0)]) (fa_cons rfl (fa_cons rfl (fa_cons rfl fa_nil))) (hJ _ _ _ h)
set_option maxHeartbeats 4000000 in
set_option maxRecDepth 100000 in
noncomputable def T_X6_codeOf_2.{u} {α : Sort u} (J : Nat → List Value → Mem → α) (R : Int32 → Mem → α) (N : α) (n : Nat) (a0 : Nat) (j1 : Int64) (x3 : Int32) (M : Mem) : α := if 22 ≤ x3 then R (-1) M else gd (fO M a0 6) N (bnd (M.2.2.2.2 a0 2) N (fun r4 => gd (fA M r4 2 x3) N (if (lg_cmp (M.2.2.2.1 r4 (x3.toNatClampNeg)) j1) = 0 then R x3 M else J 2 [.ref a0, .long j1, .int (x3 + 1)] M)))
set_option maxHeartbeats 4000000 in
set_option maxRecDepth 100000 in
theorem n_X6_codeOf_2.{u, v} {α : Sort u} {β : Sort v} (h : α → β) (J : Nat → List Value → Mem → α) (R : Int32 → Mem → α) (N : α) (n : Nat) (a0 : Nat) (j1 : Int64) (x3 : Int32) (M : Mem) : h (T_X6_codeOf_2 J R N n a0 j1 x3 M) = T_X6_codeOf_2 (fun c l M => h (J c l M)) (fun v M => h (R v M)) (h N) n a0 j1 x3 M := by
  simp only [T_X6_codeOf_2, nat_ite h, nat_gd h, nat_bnd h, nat_bnd2 h]
set_option maxHeartbeats 4000000 in
set_option maxRecDepth 100000 in
theorem w_X6_codeOf_2 {X : Nat × (Nat → Int32)} {al : Bool} {n : Nat} {Q : Option Value → Mem → Prop} {J : Nat → List Value → Mem → Prop} (hJ : ∀ c l M, J c l M → PW_X6_codeOf X al n Q c l M) {R : Int32 → Mem → Prop} (hR : ∀ v M, R v M → Q (some (.int v)) M) {a0 : Nat} {j1 : Int64} {x3 : Int32} {M : Mem} (h : T_X6_codeOf_2 J R False n a0 j1 x3 M) : AW X (RX6, cX6_codeOf, 4, (some .int), false, al, n) 0 0 2 [(0, .ref a0), (1, .long j1), (3, .int x3)] [] M Q := by
  unfold T_X6_codeOf_2 at h
  refine a_iload_n dX6_codeOf_2 rfl rfl ?_
  refine a_bipush (v := 22) dX6_codeOf_3 (by decide) ?_
  refine a_icmp_ge 27 dX6_codeOf_5 (by decide) (fun c1 => ?_) (fun c1 => ?_)
  · replace h := ite_t c1 h
    refine a_iconst (v := -1) dX6_codeOf_27 (by decide) ?_
    exact a_iret dX6_codeOf_28 rfl (hR _ _ h)
  · replace h := ite_f c1 h
    refine a_aload_n dX6_codeOf_8 rfl rfl ?_
    obtain ⟨⟨ga2, gs3⟩, h⟩ := gd_t h
    obtain ⟨r4, e5, h⟩ := bnd_t h
    refine a_get (v := .ref r4) dX6_codeOf_9 fl_6_9 ga2 gs3 (gvR e5 rfl) ?_
    refine a_iload_n dX6_codeOf_12 rfl rfl ?_
    obtain ⟨⟨ga6, gn7, gs8, gi9⟩, h⟩ := gd_t h
    refine a_laload dX6_codeOf_13 ga6 gs8 gi9 ?_
    refine a_lload_n dX6_codeOf_14 rfl rfl ?_
    refine a_lcmp dX6_codeOf_15 ?_
    refine a_if_ne 21 dX6_codeOf_16 (by decide) (fun c10 => ?_) (fun c10 => ?_)
    · replace h := ite_f c10 h
      refine a_iinc (v := (x3 + 1)) dX6_codeOf_21 rfl (by first | rfl | decide) (Nat.le_of_ble_eq_true rfl) (lv2 := [(3, .int (x3 + 1)), (0, .ref a0), (1, .long j1)]) rfl ?_
      refine a_goto 2 dX6_codeOf_24 (by decide) ?_
      exact a_lv (lv2 := [(0, .ref a0), (1, .long j1), (3, .int (x3 + 1))]) (fa_cons rfl (fa_cons rfl (fa_cons rfl fa_nil))) (hJ _ _ _ h)
    · replace h := ite_t c10 h
      refine a_iload_n dX6_codeOf_19 rfl rfl ?_
      exact a_iret dX6_codeOf_20 rfl (hR _ _ h)
set_option maxHeartbeats 4000000 in
set_option maxRecDepth 100000 in
noncomputable def st_X6_codeOf (n : Nat) (s : Sg) : Option (Sg ⊕ (Int32 × Mem)) := if s.1 = 0 then vR s.2.1 none (fun a0 t => vJ t none (fun j1 t => vE t none (T_X6_codeOf_0 (fun c l M => some (.inl (c, l, M))) (fun v M => some (.inr (v, M))) none n a0 j1 s.2.2))) else if s.1 = 2 then vR s.2.1 none (fun a0 t => vJ t none (fun j1 t => vI t none (fun x3 t => vE t none (T_X6_codeOf_2 (fun c l M => some (.inl (c, l, M))) (fun v M => some (.inr (v, M))) none n a0 j1 x3 s.2.2)))) else none
noncomputable abbrev g_X6_codeOf_0 (n : Nat) (a0 : Nat) (j1 : Int64) (M : Mem) : Option (Int32 × Mem) := lp (st_X6_codeOf n) (0, [.ref a0, .long j1], M)
set_option maxHeartbeats 4000000 in
set_option maxRecDepth 100000 in
theorem ge_X6_codeOf_0 (n : Nat) (a0 : Nat) (j1 : Int64) (M : Mem) : g_X6_codeOf_0 n a0 j1 M = T_X6_codeOf_0 (fun c l M => lp (st_X6_codeOf n) (c, l, M)) (fun v M => some (v, M)) none n a0 j1 M := (lp_eq _ _).trans (n_X6_codeOf_0 (lpK (st_X6_codeOf n)) (fun c l M => some (.inl (c, l, M))) (fun v M => some (.inr (v, M))) none n a0 j1 M)
noncomputable abbrev g_X6_codeOf_2 (n : Nat) (a0 : Nat) (j1 : Int64) (x3 : Int32) (M : Mem) : Option (Int32 × Mem) := lp (st_X6_codeOf n) (2, [.ref a0, .long j1, .int x3], M)
set_option maxHeartbeats 4000000 in
set_option maxRecDepth 100000 in
theorem ge_X6_codeOf_2 (n : Nat) (a0 : Nat) (j1 : Int64) (x3 : Int32) (M : Mem) : g_X6_codeOf_2 n a0 j1 x3 M = T_X6_codeOf_2 (fun c l M => lp (st_X6_codeOf n) (c, l, M)) (fun v M => some (v, M)) none n a0 j1 x3 M := (lp_eq _ _).trans (n_X6_codeOf_2 (lpK (st_X6_codeOf n)) (fun c l M => some (.inl (c, l, M))) (fun v M => some (.inr (v, M))) none n a0 j1 x3 M)
noncomputable def b_X6_codeOf (n : Nat) (a0 : Nat) (j1 : Int64) (M : Mem) : Option (Int32 × Mem) := g_X6_codeOf_0 n a0 j1 M
set_option maxHeartbeats 4000000 in
set_option maxRecDepth 100000 in
theorem sb_X6_codeOf {X : Nat × (Nat → Int32)} {al : Bool} {n : Nat} {a0 : Nat} {j1 : Int64} {M : Mem} {v : Int32} {M1 : Mem} (h : b_X6_codeOf n a0 j1 M = some (v, M1)) : AE yX6_codeOf cX6_codeOf 4 (some .int) al n X [.ref a0, .long j1] M (some (.int v)) M1 := by
  refine AM.of false (by decide +kernel) (by intro h; cases h) (Nat.le_of_ble_eq_true rfl) ?_
  refine lp_snd (P := fun s r => PW_X6_codeOf X al n (fun v M2 => v = (some (.int r.1)) ∧ M2 = r.2) s.1 s.2.1 s.2.2) ?_ h
  clear h
  rintro ⟨c, l, M⟩ r h
  unfold st_X6_codeOf at h
  rcases ite_p h with ⟨e, h⟩ | ⟨e, h⟩
  · replace e : c = 0 := e
    subst e
    obtain ⟨a0, tt0, e, h⟩ := vR_p id h
    replace e : l = _ := e
    subst e
    obtain ⟨j1, tt1, e, h⟩ := vJ_p id h
    replace e : tt0 = _ := e
    subst e
    obtain ⟨e, h⟩ := vE_p id h
    replace e : tt1 = [] := e
    subst e
    exact w_X6_codeOf_0 (J := fun c l M => PW_X6_codeOf X al n (fun v M2 => v = (some (.int r.1)) ∧ M2 = r.2) c l M) (R := fun v M => (v, M) = r) (fun _ _ _ h => h) (fun v M h => by cases h; exact ⟨rfl, rfl⟩) ((n_X6_codeOf_0 (lpP (fun (s : Sg) (r : Int32 × Mem) => PW_X6_codeOf X al n (fun v M2 => v = (some (.int r.1)) ∧ M2 = r.2) s.1 s.2.1 s.2.2) r) (fun c l M => some (.inl (c, l, M))) (fun v M => some (.inr (v, M))) none n a0 j1 M).mp h)
  rcases ite_p h with ⟨e, h⟩ | ⟨e, h⟩
  · replace e : c = 2 := e
    subst e
    obtain ⟨a0, tt0, e, h⟩ := vR_p id h
    replace e : l = _ := e
    subst e
    obtain ⟨j1, tt1, e, h⟩ := vJ_p id h
    replace e : tt0 = _ := e
    subst e
    obtain ⟨x3, tt2, e, h⟩ := vI_p id h
    replace e : tt1 = _ := e
    subst e
    obtain ⟨e, h⟩ := vE_p id h
    replace e : tt2 = [] := e
    subst e
    exact w_X6_codeOf_2 (J := fun c l M => PW_X6_codeOf X al n (fun v M2 => v = (some (.int r.1)) ∧ M2 = r.2) c l M) (R := fun v M => (v, M) = r) (fun _ _ _ h => h) (fun v M h => by cases h; exact ⟨rfl, rfl⟩) ((n_X6_codeOf_2 (lpP (fun (s : Sg) (r : Int32 × Mem) => PW_X6_codeOf X al n (fun v M2 => v = (some (.int r.1)) ∧ M2 = r.2) s.1 s.2.1 s.2.2) r) (fun c l M => some (.inl (c, l, M))) (fun v M => some (.inr (v, M))) none n a0 j1 x3 M).mp h)
  · exact h.elim

noncomputable abbrev f_X6_codeOf := b_X6_codeOf
theorem s_X6_codeOf {X : Nat × (Nat → Int32)} {al : Bool} {n : Nat} {a0 : Nat} {j1 : Int64} {M : Mem} {v : Int32} {M1 : Mem} (h : f_X6_codeOf n a0 j1 M = some (v, M1)) : AE yX6_codeOf cX6_codeOf 4 (some .int) al n X [.ref a0, .long j1] M (some (.int v)) M1 := sb_X6_codeOf h
def ix_X6_advance (c : Nat) : List Nat := if c = 0 then [0] else if c = 38 then [0] else if c = 123 then [0] else if c = 197 then [0] else []
def PW_X6_advance (X : Nat × (Nat → Int32)) (al : Bool) (n : Nat) (Q : Option Value → Mem → Prop) (c : Nat) (l : List Value) (M : Mem) : Prop := AW X (RX6, cX6_advance, 1, none, false, al, n) 0 0 c (List.zip (ix_X6_advance c) l) (l.drop (ix_X6_advance c).length) M Q
set_option maxHeartbeats 4000000 in
set_option maxRecDepth 100000 in
noncomputable def T_X6_advance_0.{u} {α : Sort u} (J : Nat → List Value → Mem → α) (R : Unit → Mem → α) (N : α) (n : Nat) (a0 : Nat) (M : Mem) : α := gd (fO M a0 6) N (if (M.2.2.1 a0 10) ≤ (M.2.2.1 a0 11) then J 38 [.ref a0] M else bnd (M.2.2.2.2 a0 1) N (fun r4 => gd (fA M r4 1 (M.2.2.1 a0 11)) N (if (M.2.2.1 r4 ((M.2.2.1 a0 11).toNatClampNeg)) = 32 then J 0 [.ref a0] (wI M a0 11 ((M.2.2.1 a0 11) + 1)) else J 38 [.ref a0] M)))
set_option maxHeartbeats 4000000 in
set_option maxRecDepth 100000 in
theorem n_X6_advance_0.{u, v} {α : Sort u} {β : Sort v} (h : α → β) (J : Nat → List Value → Mem → α) (R : Unit → Mem → α) (N : α) (n : Nat) (a0 : Nat) (M : Mem) : h (T_X6_advance_0 J R N n a0 M) = T_X6_advance_0 (fun c l M => h (J c l M)) (fun v M => h (R v M)) (h N) n a0 M := by
  simp only [T_X6_advance_0, nat_ite h, nat_gd h, nat_bnd h, nat_bnd2 h]
set_option maxHeartbeats 4000000 in
set_option maxRecDepth 100000 in
theorem w_X6_advance_0 {X : Nat × (Nat → Int32)} {al : Bool} {n : Nat} {Q : Option Value → Mem → Prop} {J : Nat → List Value → Mem → Prop} (hJ : ∀ c l M, J c l M → PW_X6_advance X al n Q c l M) {R : Unit → Mem → Prop} (hR : ∀ v M, R v M → Q none M) {a0 : Nat} {M : Mem} (h : T_X6_advance_0 J R False n a0 M) : AW X (RX6, cX6_advance, 1, none, false, al, n) 0 0 0 [(0, .ref a0)] [] M Q := by
  unfold T_X6_advance_0 at h
  refine a_aload_n dX6_advance_0 rfl rfl ?_
  obtain ⟨⟨ga1, gs2⟩, h⟩ := gd_t h
  refine a_get (v := .int (M.2.2.1 a0 11)) dX6_advance_1 fl_6_62 ga1 gs2 rfl ?_
  refine a_aload_n dX6_advance_4 rfl rfl ?_
  refine a_get (v := .int (M.2.2.1 a0 10)) dX6_advance_5 fl_6_59 ga1 gs2 rfl ?_
  refine a_icmp_ge 38 dX6_advance_8 (by decide) (fun c3 => ?_) (fun c3 => ?_)
  · replace h := ite_t c3 h
    exact a_lv (lv2 := [(0, .ref a0)]) (fa_cons rfl fa_nil) (hJ _ _ _ h)
  · replace h := ite_f c3 h
    refine a_aload_n dX6_advance_11 rfl rfl ?_
    obtain ⟨r4, e5, h⟩ := bnd_t h
    refine a_get (v := .ref r4) dX6_advance_12 fl_6_43 ga1 gs2 (gvR e5 rfl) ?_
    refine a_aload_n dX6_advance_15 rfl rfl ?_
    refine a_get (v := .int (M.2.2.1 a0 11)) dX6_advance_16 fl_6_62 ga1 gs2 rfl ?_
    obtain ⟨⟨ga6, gn7, gs8, gi9⟩, h⟩ := gd_t h
    refine a_iaload dX6_advance_19 ga6 gs8 gi9 ?_
    refine a_bipush (v := 32) dX6_advance_20 (by decide) ?_
    refine a_icmp_ne 38 dX6_advance_22 (by decide) (fun c10 => ?_) (fun c10 => ?_)
    · replace h := ite_f c10 h
      exact a_lv (lv2 := [(0, .ref a0)]) (fa_cons rfl fa_nil) (hJ _ _ _ h)
    · replace h := ite_t c10 h
      refine a_aload_n dX6_advance_25 rfl rfl ?_
      refine a_dup dX6_advance_26 rfl ?_
      refine a_get (v := .int (M.2.2.1 a0 11)) dX6_advance_27 fl_6_62 ga1 gs2 rfl ?_
      refine a_iconst (v := 1) dX6_advance_30 (by decide) ?_
      refine a_iadd dX6_advance_31 ?_
      refine a_putI dX6_advance_32 (Or.inl ⟨fl_6_62, Or.inl rfl⟩) rfl ga1 gs2 rfl rfl ?_
      refine a_goto 0 dX6_advance_35 (by decide) ?_
      exact a_lv (lv2 := [(0, .ref a0)]) (fa_cons rfl fa_nil) (hJ _ _ _ h)
set_option maxHeartbeats 4000000 in
set_option maxRecDepth 100000 in
noncomputable def T_X6_advance_38.{u} {α : Sort u} (J : Nat → List Value → Mem → α) (R : Unit → Mem → α) (N : α) (n : Nat) (a0 : Nat) (M : Mem) : α := gd (fO M a0 6) N (if ((wI M a0 12 (M.2.2.1 a0 11)).2.2.1 a0 11) < ((wI M a0 12 (M.2.2.1 a0 11)).2.2.1 a0 10) then bnd (M.2.2.2.2 a0 1) N (fun r4 => gd (fA M r4 1 ((wI M a0 12 (M.2.2.1 a0 11)).2.2.1 a0 11)) N (bnd2 (cal n (fun n => f_X6_isLetter n ((wI M a0 12 (M.2.2.1 a0 11)).2.2.1 r4 (((wI M a0 12 (M.2.2.1 a0 11)).2.2.1 a0 11).toNatClampNeg)) (wJ (wI M a0 12 (M.2.2.1 a0 11)) a0 14 0))) N (fun v10 M11 => if v10 = 0 then gd (fO M11 a0 6) N (bnd (M11.2.2.2.2 a0 1) N (fun r18 => gd (fA M11 r18 1 (M11.2.2.1 a0 11)) N (R () (wI (wI (wJ M11 a0 14 (Int32.toInt64 (M11.2.2.1 r18 ((M11.2.2.1 a0 11).toNatClampNeg)))) a0 11 ((M11.2.2.1 a0 11) + 1)) a0 13 (-2))))) else J 123 [.ref a0] M11))) else R () (wI (wI (wJ (wI M a0 12 (M.2.2.1 a0 11)) a0 14 0) a0 12 ((wI M a0 12 (M.2.2.1 a0 11)).2.2.1 a0 10)) a0 13 (-3)))
set_option maxHeartbeats 4000000 in
set_option maxRecDepth 100000 in
theorem n_X6_advance_38.{u, v} {α : Sort u} {β : Sort v} (h : α → β) (J : Nat → List Value → Mem → α) (R : Unit → Mem → α) (N : α) (n : Nat) (a0 : Nat) (M : Mem) : h (T_X6_advance_38 J R N n a0 M) = T_X6_advance_38 (fun c l M => h (J c l M)) (fun v M => h (R v M)) (h N) n a0 M := by
  simp only [T_X6_advance_38, nat_ite h, nat_gd h, nat_bnd h, nat_bnd2 h]
set_option maxHeartbeats 4000000 in
set_option maxRecDepth 100000 in
theorem w_X6_advance_38 {X : Nat × (Nat → Int32)} {al : Bool} {n : Nat} {Q : Option Value → Mem → Prop} {J : Nat → List Value → Mem → Prop} (hJ : ∀ c l M, J c l M → PW_X6_advance X al n Q c l M) {R : Unit → Mem → Prop} (hR : ∀ v M, R v M → Q none M) {a0 : Nat} {M : Mem} (h : T_X6_advance_38 J R False n a0 M) : AW X (RX6, cX6_advance, 1, none, false, al, n) 0 0 38 [(0, .ref a0)] [] M Q := by
  unfold T_X6_advance_38 at h
  refine a_aload_n dX6_advance_38 rfl rfl ?_
  refine a_aload_n dX6_advance_39 rfl rfl ?_
  obtain ⟨⟨ga1, gs2⟩, h⟩ := gd_t h
  refine a_get (v := .int (M.2.2.1 a0 11)) dX6_advance_40 fl_6_62 ga1 gs2 rfl ?_
  refine a_putI dX6_advance_43 (Or.inl ⟨fl_6_68, Or.inl rfl⟩) rfl ga1 gs2 rfl rfl ?_
  refine a_aload_n dX6_advance_46 rfl rfl ?_
  refine a_lconst (v := 0) dX6_advance_47 (by decide) ?_
  refine a_putJ dX6_advance_48 (Or.inl ⟨fl_6_71, Or.inl rfl⟩) rfl ga1 gs2 ?_
  refine a_aload_n dX6_advance_51 rfl rfl ?_
  refine a_get (v := .int ((wI M a0 12 (M.2.2.1 a0 11)).2.2.1 a0 11)) dX6_advance_52 fl_6_62 ga1 gs2 rfl ?_
  refine a_aload_n dX6_advance_55 rfl rfl ?_
  refine a_get (v := .int ((wI M a0 12 (M.2.2.1 a0 11)).2.2.1 a0 10)) dX6_advance_56 fl_6_59 ga1 gs2 rfl ?_
  refine a_icmp_lt 77 dX6_advance_59 (by decide) (fun c3 => ?_) (fun c3 => ?_)
  · replace h := ite_t c3 h
    refine a_aload_n dX6_advance_77 rfl rfl ?_
    obtain ⟨r4, e5, h⟩ := bnd_t h
    refine a_get (v := .ref r4) dX6_advance_78 fl_6_43 ga1 gs2 (gvR e5 rfl) ?_
    refine a_aload_n dX6_advance_81 rfl rfl ?_
    refine a_get (v := .int ((wI M a0 12 (M.2.2.1 a0 11)).2.2.1 a0 11)) dX6_advance_82 fl_6_62 ga1 gs2 rfl ?_
    obtain ⟨⟨ga6, gn7, gs8, gi9⟩, h⟩ := gd_t h
    refine a_iaload dX6_advance_85 ga6 gs8 gi9 ?_
    obtain ⟨v10, M11, e12, h⟩ := bnd2_t h
    obtain ⟨n13, en14, e12⟩ := cal_t e12
    refine e_callS (As := [.int ((wI M a0 12 (M.2.2.1 a0 11)).2.2.1 r4 (((wI M a0 12 (M.2.2.1 a0 11)).2.2.1 a0 11).toNatClampNeg))]) (st := []) false dX6_advance_86 mw_X6_isLetter (Or.inl ⟨rfl, ml_X6_78⟩) sm_X6_isLetter rfl (Nat.le_of_ble_eq_true rfl) en14 (s_X6_isLetter e12) ?_
    refine a_if_ne 123 dX6_advance_89 (by decide) (fun c15 => ?_) (fun c15 => ?_)
    · replace h := ite_f c15 h
      exact a_lv (lv2 := [(0, .ref a0)]) (fa_cons rfl fa_nil) (hJ _ _ _ h)
    · replace h := ite_t c15 h
      refine a_aload_n dX6_advance_92 rfl rfl ?_
      refine a_aload_n dX6_advance_93 rfl rfl ?_
      obtain ⟨⟨ga16, gs17⟩, h⟩ := gd_t h
      obtain ⟨r18, e19, h⟩ := bnd_t h
      refine a_get (v := .ref r18) dX6_advance_94 fl_6_43 ga16 gs17 (gvR e19 rfl) ?_
      refine a_aload_n dX6_advance_97 rfl rfl ?_
      refine a_get (v := .int (M11.2.2.1 a0 11)) dX6_advance_98 fl_6_62 ga16 gs17 rfl ?_
      obtain ⟨⟨ga20, gn21, gs22, gi23⟩, h⟩ := gd_t h
      refine a_iaload dX6_advance_101 ga20 gs22 gi23 ?_
      refine a_i2l dX6_advance_102 ?_
      refine a_putJ dX6_advance_103 (Or.inl ⟨fl_6_71, Or.inl rfl⟩) rfl ga16 gs17 ?_
      refine a_aload_n dX6_advance_106 rfl rfl ?_
      refine a_dup dX6_advance_107 rfl ?_
      refine a_get (v := .int (M11.2.2.1 a0 11)) dX6_advance_108 fl_6_62 ga16 gs17 rfl ?_
      refine a_iconst (v := 1) dX6_advance_111 (by decide) ?_
      refine a_iadd dX6_advance_112 ?_
      refine a_putI dX6_advance_113 (Or.inl ⟨fl_6_62, Or.inl rfl⟩) rfl ga16 gs17 rfl rfl ?_
      refine a_aload_n dX6_advance_116 rfl rfl ?_
      refine a_bipush (v := -2) dX6_advance_117 (by decide) ?_
      refine a_putI dX6_advance_119 (Or.inl ⟨fl_6_75, Or.inl rfl⟩) rfl ga16 gs17 rfl rfl ?_
      exact a_vret dX6_advance_122 rfl (hR _ _ h)
  · replace h := ite_f c3 h
    refine a_aload_n dX6_advance_62 rfl rfl ?_
    refine a_aload_n dX6_advance_63 rfl rfl ?_
    refine a_get (v := .int ((wI M a0 12 (M.2.2.1 a0 11)).2.2.1 a0 10)) dX6_advance_64 fl_6_59 ga1 gs2 rfl ?_
    refine a_putI dX6_advance_67 (Or.inl ⟨fl_6_68, Or.inl rfl⟩) rfl ga1 gs2 rfl rfl ?_
    refine a_aload_n dX6_advance_70 rfl rfl ?_
    refine a_bipush (v := -3) dX6_advance_71 (by decide) ?_
    refine a_putI dX6_advance_73 (Or.inl ⟨fl_6_75, Or.inl rfl⟩) rfl ga1 gs2 rfl rfl ?_
    exact a_vret dX6_advance_76 rfl (hR _ _ h)
set_option maxHeartbeats 4000000 in
set_option maxRecDepth 100000 in
noncomputable def T_X6_advance_123.{u} {α : Sort u} (J : Nat → List Value → Mem → α) (R : Unit → Mem → α) (N : α) (n : Nat) (a0 : Nat) (M : Mem) : α := gd (fO M a0 6) N (if (M.2.2.1 a0 10) ≤ (M.2.2.1 a0 11) then J 197 [.ref a0] M else bnd (M.2.2.2.2 a0 1) N (fun r4 => gd (fA M r4 1 (M.2.2.1 a0 11)) N (bnd2 (cal n (fun n => f_X6_isLetter n (M.2.2.1 r4 ((M.2.2.1 a0 11).toNatClampNeg)) M)) N (fun v10 M11 => if v10 = 0 then J 197 [.ref a0] M11 else gd (fO M11 a0 6) N (if 5 ≤ ((M11.2.2.1 a0 11) - (M11.2.2.1 a0 12)) then J 123 [.ref a0] (wI M11 a0 11 ((M11.2.2.1 a0 11) + 1)) else bnd (M11.2.2.2.2 a0 1) N (fun r19 => gd (fA M11 r19 1 (M11.2.2.1 a0 11)) N (J 123 [.ref a0] (wI (wJ M11 a0 14 (((M11.2.2.2.1 a0 14) <<< (Int32.toInt64 8 &&& 63)) ||| (Int32.toInt64 (M11.2.2.1 r19 ((M11.2.2.1 a0 11).toNatClampNeg))))) a0 11 ((M11.2.2.1 a0 11) + 1)))))))))
set_option maxHeartbeats 4000000 in
set_option maxRecDepth 100000 in
theorem n_X6_advance_123.{u, v} {α : Sort u} {β : Sort v} (h : α → β) (J : Nat → List Value → Mem → α) (R : Unit → Mem → α) (N : α) (n : Nat) (a0 : Nat) (M : Mem) : h (T_X6_advance_123 J R N n a0 M) = T_X6_advance_123 (fun c l M => h (J c l M)) (fun v M => h (R v M)) (h N) n a0 M := by
  simp only [T_X6_advance_123, nat_ite h, nat_gd h, nat_bnd h, nat_bnd2 h]
set_option maxHeartbeats 4000000 in
set_option maxRecDepth 100000 in
theorem w_X6_advance_123 {X : Nat × (Nat → Int32)} {al : Bool} {n : Nat} {Q : Option Value → Mem → Prop} {J : Nat → List Value → Mem → Prop} (hJ : ∀ c l M, J c l M → PW_X6_advance X al n Q c l M) {R : Unit → Mem → Prop} (hR : ∀ v M, R v M → Q none M) {a0 : Nat} {M : Mem} (h : T_X6_advance_123 J R False n a0 M) : AW X (RX6, cX6_advance, 1, none, false, al, n) 0 0 123 [(0, .ref a0)] [] M Q := by
  unfold T_X6_advance_123 at h
  refine a_aload_n dX6_advance_123 rfl rfl ?_
  obtain ⟨⟨ga1, gs2⟩, h⟩ := gd_t h
  refine a_get (v := .int (M.2.2.1 a0 11)) dX6_advance_124 fl_6_62 ga1 gs2 rfl ?_
  refine a_aload_n dX6_advance_127 rfl rfl ?_
  refine a_get (v := .int (M.2.2.1 a0 10)) dX6_advance_128 fl_6_59 ga1 gs2 rfl ?_
  refine a_icmp_ge 197 dX6_advance_131 (by decide) (fun c3 => ?_) (fun c3 => ?_)
  · replace h := ite_t c3 h
    exact a_lv (lv2 := [(0, .ref a0)]) (fa_cons rfl fa_nil) (hJ _ _ _ h)
  · replace h := ite_f c3 h
    refine a_aload_n dX6_advance_134 rfl rfl ?_
    obtain ⟨r4, e5, h⟩ := bnd_t h
    refine a_get (v := .ref r4) dX6_advance_135 fl_6_43 ga1 gs2 (gvR e5 rfl) ?_
    refine a_aload_n dX6_advance_138 rfl rfl ?_
    refine a_get (v := .int (M.2.2.1 a0 11)) dX6_advance_139 fl_6_62 ga1 gs2 rfl ?_
    obtain ⟨⟨ga6, gn7, gs8, gi9⟩, h⟩ := gd_t h
    refine a_iaload dX6_advance_142 ga6 gs8 gi9 ?_
    obtain ⟨v10, M11, e12, h⟩ := bnd2_t h
    obtain ⟨n13, en14, e12⟩ := cal_t e12
    refine e_callS (As := [.int (M.2.2.1 r4 ((M.2.2.1 a0 11).toNatClampNeg))]) (st := []) false dX6_advance_143 mw_X6_isLetter (Or.inl ⟨rfl, ml_X6_78⟩) sm_X6_isLetter rfl (Nat.le_of_ble_eq_true rfl) en14 (s_X6_isLetter e12) ?_
    refine a_if_eq 197 dX6_advance_146 (by decide) (fun c15 => ?_) (fun c15 => ?_)
    · replace h := ite_t c15 h
      exact a_lv (lv2 := [(0, .ref a0)]) (fa_cons rfl fa_nil) (hJ _ _ _ h)
    · replace h := ite_f c15 h
      refine a_aload_n dX6_advance_149 rfl rfl ?_
      obtain ⟨⟨ga16, gs17⟩, h⟩ := gd_t h
      refine a_get (v := .int (M11.2.2.1 a0 11)) dX6_advance_150 fl_6_62 ga16 gs17 rfl ?_
      refine a_aload_n dX6_advance_153 rfl rfl ?_
      refine a_get (v := .int (M11.2.2.1 a0 12)) dX6_advance_154 fl_6_68 ga16 gs17 rfl ?_
      refine a_isub dX6_advance_157 ?_
      refine a_iconst (v := 5) dX6_advance_158 (by decide) ?_
      refine a_icmp_ge 184 dX6_advance_159 (by decide) (fun c18 => ?_) (fun c18 => ?_)
      · replace h := ite_t c18 h
        refine a_aload_n dX6_advance_184 rfl rfl ?_
        refine a_dup dX6_advance_185 rfl ?_
        refine a_get (v := .int (M11.2.2.1 a0 11)) dX6_advance_186 fl_6_62 ga16 gs17 rfl ?_
        refine a_iconst (v := 1) dX6_advance_189 (by decide) ?_
        refine a_iadd dX6_advance_190 ?_
        refine a_putI dX6_advance_191 (Or.inl ⟨fl_6_62, Or.inl rfl⟩) rfl ga16 gs17 rfl rfl ?_
        refine a_goto 123 dX6_advance_194 (by decide) ?_
        exact a_lv (lv2 := [(0, .ref a0)]) (fa_cons rfl fa_nil) (hJ _ _ _ h)
      · replace h := ite_f c18 h
        refine a_aload_n dX6_advance_162 rfl rfl ?_
        refine a_aload_n dX6_advance_163 rfl rfl ?_
        refine a_get (v := .long (M11.2.2.2.1 a0 14)) dX6_advance_164 fl_6_71 ga16 gs17 rfl ?_
        refine a_bipush (v := 8) dX6_advance_167 (by decide) ?_
        refine a_lshl dX6_advance_169 ?_
        refine a_aload_n dX6_advance_170 rfl rfl ?_
        obtain ⟨r19, e20, h⟩ := bnd_t h
        refine a_get (v := .ref r19) dX6_advance_171 fl_6_43 ga16 gs17 (gvR e20 rfl) ?_
        refine a_aload_n dX6_advance_174 rfl rfl ?_
        refine a_get (v := .int (M11.2.2.1 a0 11)) dX6_advance_175 fl_6_62 ga16 gs17 rfl ?_
        obtain ⟨⟨ga21, gn22, gs23, gi24⟩, h⟩ := gd_t h
        refine a_iaload dX6_advance_178 ga21 gs23 gi24 ?_
        refine a_i2l dX6_advance_179 ?_
        refine a_lor dX6_advance_180 ?_
        refine a_putJ dX6_advance_181 (Or.inl ⟨fl_6_71, Or.inl rfl⟩) rfl ga16 gs17 ?_
        refine a_aload_n dX6_advance_184 rfl rfl ?_
        refine a_dup dX6_advance_185 rfl ?_
        refine a_get (v := .int (M11.2.2.1 a0 11)) dX6_advance_186 fl_6_62 ga16 gs17 rfl ?_
        refine a_iconst (v := 1) dX6_advance_189 (by decide) ?_
        refine a_iadd dX6_advance_190 ?_
        refine a_putI dX6_advance_191 (Or.inl ⟨fl_6_62, Or.inl rfl⟩) rfl ga16 gs17 rfl rfl ?_
        refine a_goto 123 dX6_advance_194 (by decide) ?_
        exact a_lv (lv2 := [(0, .ref a0)]) (fa_cons rfl fa_nil) (hJ _ _ _ h)
set_option maxHeartbeats 4000000 in
set_option maxRecDepth 100000 in
noncomputable def T_X6_advance_197.{u} {α : Sort u} (J : Nat → List Value → Mem → α) (R : Unit → Mem → α) (N : α) (n : Nat) (a0 : Nat) (M : Mem) : α := gd (fO M a0 6) N (if ((M.2.2.1 a0 11) - (M.2.2.1 a0 12)) ≤ 5 then bnd2 (cal n (fun n => f_X6_codeOf n a0 (M.2.2.2.1 a0 14) M)) N (fun v4 M5 => gd (fO M5 a0 6) N (R () (wI M5 a0 13 v4))) else R () (wI M a0 13 (-1)))
set_option maxHeartbeats 4000000 in
set_option maxRecDepth 100000 in
theorem n_X6_advance_197.{u, v} {α : Sort u} {β : Sort v} (h : α → β) (J : Nat → List Value → Mem → α) (R : Unit → Mem → α) (N : α) (n : Nat) (a0 : Nat) (M : Mem) : h (T_X6_advance_197 J R N n a0 M) = T_X6_advance_197 (fun c l M => h (J c l M)) (fun v M => h (R v M)) (h N) n a0 M := by
  simp only [T_X6_advance_197, nat_ite h, nat_gd h, nat_bnd h, nat_bnd2 h]
set_option maxHeartbeats 4000000 in
set_option maxRecDepth 100000 in
theorem w_X6_advance_197 {X : Nat × (Nat → Int32)} {al : Bool} {n : Nat} {Q : Option Value → Mem → Prop} {J : Nat → List Value → Mem → Prop} (hJ : ∀ c l M, J c l M → PW_X6_advance X al n Q c l M) {R : Unit → Mem → Prop} (hR : ∀ v M, R v M → Q none M) {a0 : Nat} {M : Mem} (h : T_X6_advance_197 J R False n a0 M) : AW X (RX6, cX6_advance, 1, none, false, al, n) 0 0 197 [(0, .ref a0)] [] M Q := by
  unfold T_X6_advance_197 at h
  refine a_aload_n dX6_advance_197 rfl rfl ?_
  refine a_aload_n dX6_advance_198 rfl rfl ?_
  obtain ⟨⟨ga1, gs2⟩, h⟩ := gd_t h
  refine a_get (v := .int (M.2.2.1 a0 11)) dX6_advance_199 fl_6_62 ga1 gs2 rfl ?_
  refine a_aload_n dX6_advance_202 rfl rfl ?_
  refine a_get (v := .int (M.2.2.1 a0 12)) dX6_advance_203 fl_6_68 ga1 gs2 rfl ?_
  refine a_isub dX6_advance_206 ?_
  refine a_iconst (v := 5) dX6_advance_207 (by decide) ?_
  refine a_icmp_le 215 dX6_advance_208 (by decide) (fun c3 => ?_) (fun c3 => ?_)
  · replace h := ite_t c3 h
    refine a_aload_n dX6_advance_215 rfl rfl ?_
    refine a_aload_n dX6_advance_216 rfl rfl ?_
    refine a_get (v := .long (M.2.2.2.1 a0 14)) dX6_advance_217 fl_6_71 ga1 gs2 rfl ?_
    obtain ⟨v4, M5, e6, h⟩ := bnd2_t h
    obtain ⟨n7, en8, e6⟩ := cal_t e6
    refine e_callV (As := [.long (M.2.2.2.1 a0 14)]) (st := [.ref a0]) (a := a0) (ci := 6) false dX6_advance_220 mw_X6_codeOf (Or.inl ⟨rfl, ml_X6_82⟩) im_X6_codeOf se_X6_codeOf (by decide) ga1 gs2 rfl (Nat.le_of_ble_eq_true rfl) en8 (s_X6_codeOf e6) ?_
    obtain ⟨⟨ga9, gs10⟩, h⟩ := gd_t h
    refine a_putI dX6_advance_223 (Or.inl ⟨fl_6_75, Or.inl rfl⟩) rfl ga9 gs10 rfl rfl ?_
    exact a_vret dX6_advance_226 rfl (hR _ _ h)
  · replace h := ite_f c3 h
    refine a_iconst (v := -1) dX6_advance_211 (by decide) ?_
    refine a_goto 223 dX6_advance_212 (by decide) ?_
    refine a_putI dX6_advance_223 (Or.inl ⟨fl_6_75, Or.inl rfl⟩) rfl ga1 gs2 rfl rfl ?_
    exact a_vret dX6_advance_226 rfl (hR _ _ h)
set_option maxHeartbeats 4000000 in
set_option maxRecDepth 100000 in
noncomputable def st_X6_advance (n : Nat) (s : Sg) : Option (Sg ⊕ (Unit × Mem)) := if s.1 = 0 then vR s.2.1 none (fun a0 t => vE t none (T_X6_advance_0 (fun c l M => some (.inl (c, l, M))) (fun v M => some (.inr (v, M))) none n a0 s.2.2)) else if s.1 = 38 then vR s.2.1 none (fun a0 t => vE t none (T_X6_advance_38 (fun c l M => some (.inl (c, l, M))) (fun v M => some (.inr (v, M))) none n a0 s.2.2)) else if s.1 = 123 then vR s.2.1 none (fun a0 t => vE t none (T_X6_advance_123 (fun c l M => some (.inl (c, l, M))) (fun v M => some (.inr (v, M))) none n a0 s.2.2)) else if s.1 = 197 then vR s.2.1 none (fun a0 t => vE t none (T_X6_advance_197 (fun c l M => some (.inl (c, l, M))) (fun v M => some (.inr (v, M))) none n a0 s.2.2)) else none
noncomputable abbrev g_X6_advance_0 (n : Nat) (a0 : Nat) (M : Mem) : Option (Unit × Mem) := lp (st_X6_advance n) (0, [.ref a0], M)
set_option maxHeartbeats 4000000 in
set_option maxRecDepth 100000 in
theorem ge_X6_advance_0 (n : Nat) (a0 : Nat) (M : Mem) : g_X6_advance_0 n a0 M = T_X6_advance_0 (fun c l M => lp (st_X6_advance n) (c, l, M)) (fun v M => some (v, M)) none n a0 M := (lp_eq _ _).trans (n_X6_advance_0 (lpK (st_X6_advance n)) (fun c l M => some (.inl (c, l, M))) (fun v M => some (.inr (v, M))) none n a0 M)
noncomputable abbrev g_X6_advance_38 (n : Nat) (a0 : Nat) (M : Mem) : Option (Unit × Mem) := lp (st_X6_advance n) (38, [.ref a0], M)
set_option maxHeartbeats 4000000 in
set_option maxRecDepth 100000 in
theorem ge_X6_advance_38 (n : Nat) (a0 : Nat) (M : Mem) : g_X6_advance_38 n a0 M = T_X6_advance_38 (fun c l M => lp (st_X6_advance n) (c, l, M)) (fun v M => some (v, M)) none n a0 M := (lp_eq _ _).trans (n_X6_advance_38 (lpK (st_X6_advance n)) (fun c l M => some (.inl (c, l, M))) (fun v M => some (.inr (v, M))) none n a0 M)
noncomputable abbrev g_X6_advance_123 (n : Nat) (a0 : Nat) (M : Mem) : Option (Unit × Mem) := lp (st_X6_advance n) (123, [.ref a0], M)
set_option maxHeartbeats 4000000 in
set_option maxRecDepth 100000 in
theorem ge_X6_advance_123 (n : Nat) (a0 : Nat) (M : Mem) : g_X6_advance_123 n a0 M = T_X6_advance_123 (fun c l M => lp (st_X6_advance n) (c, l, M)) (fun v M => some (v, M)) none n a0 M := (lp_eq _ _).trans (n_X6_advance_123 (lpK (st_X6_advance n)) (fun c l M => some (.inl (c, l, M))) (fun v M => some (.inr (v, M))) none n a0 M)
noncomputable abbrev g_X6_advance_197 (n : Nat) (a0 : Nat) (M : Mem) : Option (Unit × Mem) := lp (st_X6_advance n) (197, [.ref a0], M)
set_option maxHeartbeats 4000000 in
set_option maxRecDepth 100000 in
theorem ge_X6_advance_197 (n : Nat) (a0 : Nat) (M : Mem) : g_X6_advance_197 n a0 M = T_X6_advance_197 (fun c l M => lp (st_X6_advance n) (c, l, M)) (fun v M => some (v, M)) none n a0 M := (lp_eq _ _).trans (n_X6_advance_197 (lpK (st_X6_advance n)) (fun c l M => some (.inl (c, l, M))) (fun v M => some (.inr (v, M))) none n a0 M)
noncomputable def b_X6_advance (n : Nat) (a0 : Nat) (M : Mem) : Option (Unit × Mem) := g_X6_advance_0 n a0 M
set_option maxHeartbeats 4000000 in
set_option maxRecDepth 100000 in
theorem sb_X6_advance {X : Nat × (Nat → Int32)} {al : Bool} {n : Nat} {a0 : Nat} {M : Mem} {v : Unit} {M1 : Mem} (h : b_X6_advance n a0 M = some (v, M1)) : AE yX6_advance cX6_advance 1 none al n X [.ref a0] M none M1 := by
  refine AM.of false (by decide +kernel) (by intro h; cases h) (Nat.le_of_ble_eq_true rfl) ?_
  refine lp_snd (P := fun s r => PW_X6_advance X al n (fun v M2 => v = none ∧ M2 = r.2) s.1 s.2.1 s.2.2) ?_ h
  clear h
  rintro ⟨c, l, M⟩ r h
  unfold st_X6_advance at h
  rcases ite_p h with ⟨e, h⟩ | ⟨e, h⟩
  · replace e : c = 0 := e
    subst e
    obtain ⟨a0, tt0, e, h⟩ := vR_p id h
    replace e : l = _ := e
    subst e
    obtain ⟨e, h⟩ := vE_p id h
    replace e : tt0 = [] := e
    subst e
    exact w_X6_advance_0 (J := fun c l M => PW_X6_advance X al n (fun v M2 => v = none ∧ M2 = r.2) c l M) (R := fun v M => (v, M) = r) (fun _ _ _ h => h) (fun v M h => by cases h; exact ⟨rfl, rfl⟩) ((n_X6_advance_0 (lpP (fun (s : Sg) (r : Unit × Mem) => PW_X6_advance X al n (fun v M2 => v = none ∧ M2 = r.2) s.1 s.2.1 s.2.2) r) (fun c l M => some (.inl (c, l, M))) (fun v M => some (.inr (v, M))) none n a0 M).mp h)
  rcases ite_p h with ⟨e, h⟩ | ⟨e, h⟩
  · replace e : c = 38 := e
    subst e
    obtain ⟨a0, tt0, e, h⟩ := vR_p id h
    replace e : l = _ := e
    subst e
    obtain ⟨e, h⟩ := vE_p id h
    replace e : tt0 = [] := e
    subst e
    exact w_X6_advance_38 (J := fun c l M => PW_X6_advance X al n (fun v M2 => v = none ∧ M2 = r.2) c l M) (R := fun v M => (v, M) = r) (fun _ _ _ h => h) (fun v M h => by cases h; exact ⟨rfl, rfl⟩) ((n_X6_advance_38 (lpP (fun (s : Sg) (r : Unit × Mem) => PW_X6_advance X al n (fun v M2 => v = none ∧ M2 = r.2) s.1 s.2.1 s.2.2) r) (fun c l M => some (.inl (c, l, M))) (fun v M => some (.inr (v, M))) none n a0 M).mp h)
  rcases ite_p h with ⟨e, h⟩ | ⟨e, h⟩
  · replace e : c = 123 := e
    subst e
    obtain ⟨a0, tt0, e, h⟩ := vR_p id h
    replace e : l = _ := e
    subst e
    obtain ⟨e, h⟩ := vE_p id h
    replace e : tt0 = [] := e
    subst e
    exact w_X6_advance_123 (J := fun c l M => PW_X6_advance X al n (fun v M2 => v = none ∧ M2 = r.2) c l M) (R := fun v M => (v, M) = r) (fun _ _ _ h => h) (fun v M h => by cases h; exact ⟨rfl, rfl⟩) ((n_X6_advance_123 (lpP (fun (s : Sg) (r : Unit × Mem) => PW_X6_advance X al n (fun v M2 => v = none ∧ M2 = r.2) s.1 s.2.1 s.2.2) r) (fun c l M => some (.inl (c, l, M))) (fun v M => some (.inr (v, M))) none n a0 M).mp h)
  rcases ite_p h with ⟨e, h⟩ | ⟨e, h⟩
  · replace e : c = 197 := e
    subst e
    obtain ⟨a0, tt0, e, h⟩ := vR_p id h
    replace e : l = _ := e
    subst e
    obtain ⟨e, h⟩ := vE_p id h
    replace e : tt0 = [] := e
    subst e
    exact w_X6_advance_197 (J := fun c l M => PW_X6_advance X al n (fun v M2 => v = none ∧ M2 = r.2) c l M) (R := fun v M => (v, M) = r) (fun _ _ _ h => h) (fun v M h => by cases h; exact ⟨rfl, rfl⟩) ((n_X6_advance_197 (lpP (fun (s : Sg) (r : Unit × Mem) => PW_X6_advance X al n (fun v M2 => v = none ∧ M2 = r.2) s.1 s.2.1 s.2.2) r) (fun c l M => some (.inl (c, l, M))) (fun v M => some (.inr (v, M))) none n a0 M).mp h)
  · exact h.elim

noncomputable abbrev f_X6_advance := b_X6_advance
theorem s_X6_advance {X : Nat × (Nat → Int32)} {al : Bool} {n : Nat} {a0 : Nat} {M : Mem} {v : Unit} {M1 : Mem} (h : f_X6_advance n a0 M = some (v, M1)) : AE yX6_advance cX6_advance 1 none al n X [.ref a0] M none M1 := sb_X6_advance h
